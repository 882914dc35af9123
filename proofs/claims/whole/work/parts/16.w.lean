def wX8_init (a0 : Nat) (h : AH) (K : AH → Prop) : Prop :=
  (¬ a0 = 0) ∧ (isO h a0 6) ∧ ∀ h3, h3 = uI h a0 0 0 → ∀ h4, h4 = uI h3 a0 1 0 → ∀ h5, h5 = uI h4 a0 2 0 → ∀ h6, h6 = uI h5 a0 3 0 → ∀ h7, h7 = uI h6 a0 4 0 → ∀ h8, h8 = uI h7 a0 5 0 → K h8
def wX6_init (a0 : Nat) (h : AH) (K : AH → Prop) : Prop :=
  (¬ a0 = 0) ∧ (isO h a0 4) ∧ ∀ h3, h3 = uI h a0 0 0 → ∀ h4, h4 = nw h3 100 8 → (isO h4 a0 4) ∧ ∀ h6, h6 = uR h4 a0 1 (mN h3) → ∀ h7, h7 = nw h6 100 8 → (isO h7 a0 4) ∧ ∀ h9, h9 = uR h7 a0 2 (mN h6) → ∀ h10, h10 = nw h9 100 8 → (isO h10 a0 4) ∧ ∀ h12, h12 = uR h10 a0 3 (mN h9) → ∀ h13, h13 = uI h12 a0 4 0 → ∀ h14, h14 = uI h13 a0 5 0 → ∀ h15, h15 = uI h14 a0 6 0 → K h15
def wJ6_stringSize_0f7a4_L16 (K : Int32 → AH → Prop)  (x0 : Int32) (x1 : Int32) : Nat → Int32 → Int32 → AH → Prop
  | 0 => fun _ _ _ => False
  | n + 1 => fun x2 x3 h =>
  ((10 ≤ x3 → K (10 + x1) h) ∧ (¬ 10 ≤ x3 → ((x0 ≤ x2 → wJ6_stringSize_0f7a4_L16 K  x0 x1 n x0 x1 (10 * x2) (x3 + 1) h) ∧ (¬ x0 ≤ x2 → K (x3 + x1) h))))
def wJ6_stringSize_0f7a4 (a0 : Int32) (h : AH) (K : Int32 → AH → Prop) : Prop :=
  ((a0 < 0 → (∃ n4, wJ6_stringSize_0f7a4_L16 K a0 1 n4 (-10) 1 h)) ∧ (¬ a0 < 0 → (∃ n5, wJ6_stringSize_0f7a4_L16 K (-a0) 0 n5 (-10) 1 h)))
def wJ5_isLatin1_aae02 (a0 : Nat) (h : AH) (K : Int32 → AH → Prop) : Prop :=
  ((1 = 0 → K 0 h) ∧ (¬ 1 = 0 → (isO h a0 8) ∧ ((¬ mI h a0 1 = 0 → K 0 h) ∧ (mI h a0 1 = 0 → K 1 h))))
def wJ6_getChars_ba4f3_L22 (K : Int32 → AH → Prop) (c72 : Int32 → Nat → Int32 → Int32 → AH → Prop) (x2 : Nat) (x6 : Int32) : Nat → Int32 → Int32 → AH → Prop
  | 0 => fun _ _ _ => False
  | n + 1 => fun x0 x5 h =>
  (((-100) < x0 → c72 x0 x2 x5 x6 h) ∧ (¬ (-100) < x0 → (isA h 15 3) ∧ (vp_in (((x0 / 100) * 100) - x0) (ln h 15)) ∧ (isA h x2 3) ∧ (nZ ≤ x2) ∧ (vp_in (x5 + (-1)) (ln h x2)) ∧ ∀ h9, h9 = uI h x2 (x5 + (-1)).toNatClampNeg (vp_nar .byte (mI h 15 (((x0 / 100) * 100) - x0).toNatClampNeg)) → (isA h 14 3) ∧ (vp_in (((x0 / 100) * 100) - x0) (ln h 14)) ∧ (vp_in ((x5 + (-1)) + (-1)) (ln h x2)) ∧ ∀ h13, h13 = uI h9 x2 ((x5 + (-1)) + (-1)).toNatClampNeg (vp_nar .byte (mI h9 14 (((x0 / 100) * 100) - x0).toNatClampNeg)) → wJ6_getChars_ba4f3_L22 K c72 x2 x6 n (x0 / 100) x2 ((x5 + (-1)) + (-1)) x6 h13))
def wJ6_getChars_ba4f3_J104 (K : Int32 → AH → Prop)  (x2 : Nat) (x5 : Int32) (x6 : Int32) (h : AH) : Prop :=
  ((x6 = 0 → K x5 h) ∧ (¬ x6 = 0 → (isA h x2 3) ∧ (nZ ≤ x2) ∧ (vp_in (x5 + (-1)) (ln h x2)) ∧ ∀ h30, h30 = uI h x2 (x5 + (-1)).toNatClampNeg (vp_nar .byte 45) → K (x5 + (-1)) h30))
def wJ6_getChars_ba4f3_J12 (K : Int32 → AH → Prop)  (x0 : Int32) (x2 : Nat) (x5 : Int32) (y0 : Int32) (h : AH) : Prop :=
  ((¬ y0 = 0 → (∃ n35, wJ6_getChars_ba4f3_L22 K (fun x0_14 x2_15 x5_16 x6_17 h18 => (isA h18 15 3) ∧ (vp_in (-x0_14) (ln h18 15)) ∧ (isA h18 x2_15 3) ∧ (nZ ≤ x2_15) ∧ (vp_in (x5_16 + (-1)) (ln h18 x2_15)) ∧ ∀ h24, h24 = uI h18 x2_15 (x5_16 + (-1)).toNatClampNeg (vp_nar .byte (mI h18 15 (-x0_14).toNatClampNeg)) → (((-9) ≤ x0_14 → (wJ6_getChars_ba4f3_J104 K x2_15 (x5_16 + (-1)) x6_17 h24)) ∧ (¬ (-9) ≤ x0_14 → (isA h18 14 3) ∧ (vp_in (-x0_14) (ln h18 14)) ∧ (vp_in ((x5_16 + (-1)) + (-1)) (ln h18 x2_15)) ∧ ∀ h34, h34 = uI h24 x2_15 ((x5_16 + (-1)) + (-1)).toNatClampNeg (vp_nar .byte (mI h24 14 (-x0_14).toNatClampNeg)) → (wJ6_getChars_ba4f3_J104 K x2_15 ((x5_16 + (-1)) + (-1)) x6_17 h34)))) x2 y0 n35 x0 x5 h)) ∧ (y0 = 0 → (∃ n52, wJ6_getChars_ba4f3_L22 K (fun x0_36 x2_37 x5_38 x6_39 h40 => (isA h40 15 3) ∧ (vp_in (-x0_36) (ln h40 15)) ∧ (isA h40 x2_37 3) ∧ (nZ ≤ x2_37) ∧ (vp_in (x5_38 + (-1)) (ln h40 x2_37)) ∧ ∀ h46, h46 = uI h40 x2_37 (x5_38 + (-1)).toNatClampNeg (vp_nar .byte (mI h40 15 (-x0_36).toNatClampNeg)) → (((-9) ≤ x0_36 → (wJ6_getChars_ba4f3_J104 K x2_37 (x5_38 + (-1)) x6_39 h46)) ∧ (¬ (-9) ≤ x0_36 → (isA h40 14 3) ∧ (vp_in (-x0_36) (ln h40 14)) ∧ (vp_in ((x5_38 + (-1)) + (-1)) (ln h40 x2_37)) ∧ ∀ h51, h51 = uI h46 x2_37 ((x5_38 + (-1)) + (-1)).toNatClampNeg (vp_nar .byte (mI h46 14 (-x0_36).toNatClampNeg)) → (wJ6_getChars_ba4f3_J104 K x2_37 ((x5_38 + (-1)) + (-1)) x6_39 h51)))) x2 y0 n52 (-x0) x5 h)))
def wJ6_getChars_ba4f3 (a0 : Int32) (a1 : Int32) (a2 : Nat) (h : AH) (K : Int32 → AH → Prop) : Prop :=
  ((0 ≤ a0 → (wJ6_getChars_ba4f3_J12 K a0 a2 a1 0 h)) ∧ (¬ 0 ≤ a0 → (wJ6_getChars_ba4f3_J12 K a0 a2 a1 1 h)))
def wJ2_length_9d52b (a0 : Nat) (h : AH) (K : Int32 → AH → Prop) : Prop :=
  (isA h a0 3) ∧ K (nI (ln h a0) >>> (1 &&& 31)) h
def wJ3_checkFromToIndex_8c36e_J14 (K : Int32 → AH → Prop)  (x0 : Int32) (x1 : Int32) (x2 : Int32) (x3 : Nat) (h : AH) : Prop :=
  False
def wJ3_checkFromToIndex_8c36e (a0 : Int32) (a1 : Int32) (a2 : Int32) (a3 : Nat) (h : AH) (K : Int32 → AH → Prop) : Prop :=
  ((a0 < 0 → (wJ3_checkFromToIndex_8c36e_J14 K a0 a1 a2 a3 h)) ∧ (¬ a0 < 0 → ((a1 < a0 → (wJ3_checkFromToIndex_8c36e_J14 K a0 a1 a2 a3 h)) ∧ (¬ a1 < a0 → ((a1 ≤ a2 → K a0 h) ∧ (¬ a1 ≤ a2 → (wJ3_checkFromToIndex_8c36e_J14 K a0 a1 a2 a3 h)))))))
def wJ0_checkBoundsBeginEnd_23922 (a0 : Int32) (a1 : Int32) (a2 : Int32) (h : AH) (K : AH → Prop) : Prop :=
  False
def wJ2_checkBoundsBeginEnd_d044e (a0 : Int32) (a1 : Int32) (a2 : Nat) (h : AH) (K : AH → Prop) : Prop :=
  wJ2_length_9d52b a2 h (fun r2 h1 => wJ0_checkBoundsBeginEnd_23922 a0 a1 r2 h1 (fun h3 => K h3))
def wJ2_putChar_b72d1 (a0 : Nat) (a1 : Int32) (a2 : Int32) (h : AH) (K : AH → Prop) : Prop :=
  False
def wJ2_getChars_ba4f3_L22 (K : Int32 → AH → Prop) (c76 : Int32 → Nat → Int32 → Int32 → AH → Prop) (x2 : Nat) (x6 : Int32) : Nat → Int32 → Int32 → AH → Prop
  | 0 => fun _ _ _ => False
  | n + 1 => fun x0 x5 h =>
  (((-100) < x0 → c76 x0 x2 x5 x6 h) ∧ (¬ (-100) < x0 → (isA h 15 3) ∧ (vp_in (((x0 / 100) * 100) - x0) (ln h 15)) ∧ wJ2_putChar_b72d1 x2 (x5 + (-1)) (mI h 15 (((x0 / 100) * 100) - x0).toNatClampNeg) h (fun h6 => (isA h6 14 3) ∧ (vp_in (((x0 / 100) * 100) - x0) (ln h6 14)) ∧ wJ2_putChar_b72d1 x2 ((x5 + (-1)) + (-1)) (mI h6 14 (((x0 / 100) * 100) - x0).toNatClampNeg) h6 (fun h10 => wJ2_getChars_ba4f3_L22 K c76 x2 x6 n (x0 / 100) x2 ((x5 + (-1)) + (-1)) x6 h10))))
def wJ2_getChars_ba4f3_J112 (K : Int32 → AH → Prop)  (x2 : Nat) (x5 : Int32) (x6 : Int32) (h : AH) : Prop :=
  ((x6 = 0 → K x5 h) ∧ (¬ x6 = 0 → wJ2_putChar_b72d1 x2 (x5 + (-1)) 45 h (fun h23 => K (x5 + (-1)) h23)))
def wJ2_getChars_ba4f3_J12 (K : Int32 → AH → Prop)  (x0 : Int32) (x2 : Nat) (x5 : Int32) (y0 : Int32) (h : AH) : Prop :=
  ((¬ y0 = 0 → (∃ n29, wJ2_getChars_ba4f3_L22 K (fun x0_12 x2_13 x5_14 x6_15 h16 => (isA h16 15 3) ∧ (vp_in (-x0_12) (ln h16 15)) ∧ wJ2_putChar_b72d1 x2_13 (x5_14 + (-1)) (mI h16 15 (-x0_12).toNatClampNeg) h16 (fun h19 => (((-9) ≤ x0_12 → (wJ2_getChars_ba4f3_J112 K x2_13 (x5_14 + (-1)) x6_15 h19)) ∧ (¬ (-9) ≤ x0_12 → (isA h19 14 3) ∧ (vp_in (-x0_12) (ln h19 14)) ∧ wJ2_putChar_b72d1 x2_13 ((x5_14 + (-1)) + (-1)) (mI h19 14 (-x0_12).toNatClampNeg) h19 (fun h27 => (wJ2_getChars_ba4f3_J112 K x2_13 ((x5_14 + (-1)) + (-1)) x6_15 h27)))))) x2 y0 n29 x0 x5 h)) ∧ (y0 = 0 → (∃ n44, wJ2_getChars_ba4f3_L22 K (fun x0_30 x2_31 x5_32 x6_33 h34 => (isA h34 15 3) ∧ (vp_in (-x0_30) (ln h34 15)) ∧ wJ2_putChar_b72d1 x2_31 (x5_32 + (-1)) (mI h34 15 (-x0_30).toNatClampNeg) h34 (fun h37 => (((-9) ≤ x0_30 → (wJ2_getChars_ba4f3_J112 K x2_31 (x5_32 + (-1)) x6_33 h37)) ∧ (¬ (-9) ≤ x0_30 → (isA h37 14 3) ∧ (vp_in (-x0_30) (ln h37 14)) ∧ wJ2_putChar_b72d1 x2_31 ((x5_32 + (-1)) + (-1)) (mI h37 14 (-x0_30).toNatClampNeg) h37 (fun h42 => (wJ2_getChars_ba4f3_J112 K x2_31 ((x5_32 + (-1)) + (-1)) x6_33 h42)))))) x2 y0 n44 (-x0) x5 h)))
def wJ2_getChars_ba4f3 (a0 : Int32) (a1 : Int32) (a2 : Nat) (h : AH) (K : Int32 → AH → Prop) : Prop :=
  ((0 ≤ a0 → (wJ2_getChars_ba4f3_J12 K a0 a2 a1 0 h)) ∧ (¬ 0 ≤ a0 → (wJ2_getChars_ba4f3_J12 K a0 a2 a1 1 h)))
def wJ2_getChars_46870 (a0 : Int32) (a1 : Int32) (a2 : Int32) (a3 : Nat) (h : AH) (K : Int32 → AH → Prop) : Prop :=
  wJ2_checkBoundsBeginEnd_d044e a1 a2 a3 h (fun h1 => wJ2_getChars_ba4f3 a0 a2 a3 h1 (fun r4 h3 => False))
def wJ5_append_c97b9 (a0 : Nat) (a1 : Int32) (h : AH) (K : Nat → AH → Prop) : Prop :=
  (isO h a0 8) ∧ wJ6_stringSize_0f7a4 a1 h (fun r3 h2 => False)
def wJ4_append_bf812 (a0 : Nat) (a1 : Int32) (h : AH) (K : Nat → AH → Prop) : Prop :=
  (isO h a0 8) ∧ wJ5_append_c97b9 a0 a1 h (fun r2 h1 => K a0 h1)
def wJ5_getValue_6d5f1 (a0 : Nat) (h : AH) (K : Nat → AH → Prop) : Prop :=
  (isO h a0 8) ∧ K (mR h a0 0) h
def wJ5_length_8abf5 (a0 : Nat) (h : AH) (K : Int32 → AH → Prop) : Prop :=
  (isO h a0 8) ∧ K (mI h a0 3) h
def wJ7_checkLength_df160 (a0 : Int32) (a1 : Int32) (h : AH) (K : AH → Prop) (T : String → AH → Prop) : Prop :=
  ((a0 ≤ a1 → K h) ∧ (¬ a0 ≤ a1 → False))
def wJ7_copyOfRangeByte_39247 (a0 : Nat) (a1 : Int32) (a2 : Int32) (h : AH) (K : Nat → AH → Prop) (T : String → AH → Prop) : Prop :=
  wJ7_checkLength_df160 a1 a2 h (fun h1 => (¬ (a2 - a1) < 0) ∧ ((a2 - a1).toNatClampNeg ≤ 256) ∧ ∀ h5, h5 = nw h1 103 ((a2 - a1).toNatClampNeg) → (isA h5 a0 3) ∧ (isA h5 (mN h1) 3) ∧ (nZ ≤ a0) ∧ (nZ ≤ (mN h1)) ∧ (¬ a1 < 0) ∧ (¬ (if (a2 - a1) < (nI (ln h5 a0) - a1) then (a2 - a1) else (nI (ln h5 a0) - a1)) < 0) ∧ (a1.toNatClampNeg + (if (a2 - a1) < (nI (ln h5 a0) - a1) then (a2 - a1) else (nI (ln h5 a0) - a1)).toNatClampNeg ≤ ln h5 a0) ∧ ((0 : Int32).toNatClampNeg + (if (a2 - a1) < (nI (ln h5 a0) - a1) then (a2 - a1) else (nI (ln h5 a0) - a1)).toNatClampNeg ≤ ln h5 (mN h1)) ∧ (∀ i, i < (if (a2 - a1) < (nI (ln h5 a0) - a1) then (a2 - a1) else (nI (ln h5 a0) - a1)).toNatClampNeg → fits .byte (.int (mI h5 a0 (a1.toNatClampNeg + i))) = true) ∧ ∀ h15, h15 = uA h5 (mN h1) (va_cpy (mI h5 a0) (mI h5 (mN h1)) a1.toNatClampNeg (0 : Int32).toNatClampNeg (if (a2 - a1) < (nI (ln h5 a0) - a1) then (a2 - a1) else (nI (ln h5 a0) - a1)).toNatClampNeg) → K (mN h1) h15) T
def wJ7_copyOfRange_39247_J10 (K : Nat → AH → Prop) (T : String → AH → Prop)  (x0 : Nat) (x1 : Int32) (x2 : Int32) (h : AH) : Prop :=
  wJ7_copyOfRangeByte_39247 x0 x1 x2 h (fun r3 h2 => K r3 h2) T
def wJ7_copyOfRange_39247 (a0 : Nat) (a1 : Int32) (a2 : Int32) (h : AH) (K : Nat → AH → Prop) (T : String → AH → Prop) : Prop :=
  ((¬ a1 = 0 → (wJ7_copyOfRange_39247_J10 K T a0 a1 a2 h)) ∧ (a1 = 0 → (isA h a0 3) ∧ ((a2 = nI (ln h a0) → False) ∧ (¬ a2 = nI (ln h a0) → (wJ7_copyOfRange_39247_J10 K T a0 a1 a2 h)))))
def wJ3_checkFromIndexSize_8c36e_J15 (K : Int32 → AH → Prop)  (x0 : Int32) (x1 : Int32) (x2 : Int32) (x3 : Nat) (h : AH) : Prop :=
  False
def wJ3_checkFromIndexSize_8c36e (a0 : Int32) (a1 : Int32) (a2 : Int32) (a3 : Nat) (h : AH) (K : Int32 → AH → Prop) : Prop :=
  ((((a2 ||| a0) ||| a1) < 0 → (wJ3_checkFromIndexSize_8c36e_J15 K a0 a1 a2 a3 h)) ∧ (¬ ((a2 ||| a0) ||| a1) < 0 → ((a1 ≤ (a2 - a0) → K a0 h) ∧ (¬ a1 ≤ (a2 - a0) → (wJ3_checkFromIndexSize_8c36e_J15 K a0 a1 a2 a3 h)))))
def wJ0_checkBoundsOffCount_cabcc (a0 : Int32) (a1 : Int32) (a2 : Int32) (h : AH) (K : Int32 → AH → Prop) : Prop :=
  False
def wJ2_checkBoundsOffCount_d044e (a0 : Int32) (a1 : Int32) (a2 : Nat) (h : AH) (K : AH → Prop) : Prop :=
  wJ2_length_9d52b a2 h (fun r2 h1 => wJ0_checkBoundsOffCount_cabcc a0 a1 r2 h1 (fun r4 h3 => K h3))
def wJ2_getChar_3b067 (a0 : Nat) (a1 : Int32) (h : AH) (K : Int32 → AH → Prop) : Prop :=
  False
def wJ2_compress_5af95_L10 (K : Int32 → AH → Prop)  (x0 : Nat) (x2 : Nat) (x4 : Int32) : Nat → Int32 → Int32 → Int32 → AH → Prop
  | 0 => fun _ _ _ _ => False
  | n + 1 => fun x1 x3 x5 h =>
  ((x4 ≤ x5 → K x4 h) ∧ (¬ x4 ≤ x5 → wJ2_getChar_3b067 x0 x1 h (fun r5 h4 => ((r5 ≤ 255 → (isA h4 x2 3) ∧ (nZ ≤ x2) ∧ (vp_in x3 (ln h4 x2)) ∧ ∀ h10, h10 = uI h4 x2 x3.toNatClampNeg (vp_nar .byte r5.toInt8.toInt32) → wJ2_compress_5af95_L10 K  x0 x2 x4 n x0 (x1 + 1) x2 (x3 + 1) x4 (x5 + 1) h10) ∧ (¬ r5 ≤ 255 → K x5 h4)))))
def wJ2_compress_5af95 (a0 : Nat) (a1 : Int32) (a2 : Nat) (a3 : Int32) (a4 : Int32) (h : AH) (K : Int32 → AH → Prop) : Prop :=
  wJ2_checkBoundsOffCount_d044e a1 a4 a0 h (fun h1 => (∃ n11, wJ2_compress_5af95_L10 K a0 a2 a4 n11 a1 a3 0 h1))
def wJ2_compress_39247 (a0 : Nat) (a1 : Int32) (a2 : Int32) (h : AH) (K : Nat → AH → Prop) (T : String → AH → Prop) : Prop :=
  (¬ a2 < 0) ∧ (a2.toNatClampNeg ≤ 256) ∧ ∀ h3, h3 = nw h 103 a2.toNatClampNeg → wJ2_compress_5af95 a0 a1 (mN h) 0 a2 h3 (fun r5 h4 => ((r5 = a2 → K (mN h) h4) ∧ (¬ r5 = a2 → False)))
def wJ2_coderFromArrayLen_85cad (a0 : Nat) (a1 : Int32) (h : AH) (K : Int32 → AH → Prop) : Prop :=
  (isA h a0 3) ∧ (narrow .byte (.int ((((a1 - nI (ln h a0)).toUInt32 >>> (31.toUInt32 &&& Int32.toUInt32 31)).toInt32).toInt8.toInt32)) = .int ((((a1 - nI (ln h a0)).toUInt32 >>> (31.toUInt32 &&& Int32.toUInt32 31)).toInt32).toInt8.toInt32)) ∧ K ((((a1 - nI (ln h a0)).toUInt32 >>> (31.toUInt32 &&& Int32.toUInt32 31)).toInt32).toInt8.toInt32) h
def wJ0_init_db425_J79 (K : AH → Prop) (T : String → AH → Prop)  (x0 : Nat) (x3 : Nat) (x4 : Int32) (h : AH) : Prop :=
  False
def wJ0_init_db425 (a0 : Nat) (a1 : Nat) (a2 : Nat) (h : AH) (K : AH → Prop) (T : String → AH → Prop) : Prop :=
  (¬ a0 = 0) ∧ (isO h a1 8) ∧ wJ5_getValue_6d5f1 a1 h (fun r3 h2 => False)
def wJ0_init_81219 (a0 : Nat) (a1 : Nat) (h : AH) (K : AH → Prop) (T : String → AH → Prop) : Prop :=
  (¬ a0 = 0) ∧ wJ0_init_db425 a0 a1 0 h (fun h1 => K h1) T
def wJ4_toString_0e30d (a0 : Nat) (h : AH) (K : Nat → AH → Prop) (T : String → AH → Prop) : Prop :=
  False
def wJ8_hugeLength_7cf53 (a0 : Int32) (a1 : Int32) (h : AH) (K : Int32 → AH → Prop) (T : String → AH → Prop) : Prop :=
  ((0 ≤ (a0 + a1) → ((2147483639 < (a0 + a1) → K (a0 + a1) h) ∧ (¬ 2147483639 < (a0 + a1) → K 2147483639 h))) ∧ (¬ 0 ≤ (a0 + a1) → False))
def wJ8_newLength_cabcc_J21 (K : Int32 → AH → Prop) (T : String → AH → Prop)  (x0 : Int32) (x1 : Int32) (h : AH) : Prop :=
  wJ8_hugeLength_7cf53 x0 x1 h (fun r3 h2 => K r3 h2) T
def wJ8_newLength_cabcc (a0 : Int32) (a1 : Int32) (a2 : Int32) (h : AH) (K : Int32 → AH → Prop) (T : String → AH → Prop) : Prop :=
  (((a0 + (if a1 < a2 then a2 else a1)) ≤ 0 → (wJ8_newLength_cabcc_J21 K T a0 a1 h)) ∧ (¬ (a0 + (if a1 < a2 then a2 else a1)) ≤ 0 → ((2147483639 < (a0 + (if a1 < a2 then a2 else a1)) → (wJ8_newLength_cabcc_J21 K T a0 a1 h)) ∧ (¬ 2147483639 < (a0 + (if a1 < a2 then a2 else a1)) → K (a0 + (if a1 < a2 then a2 else a1)) h))))
def wJ5_newCapacity_0f7a4 (a0 : Nat) (a1 : Int32) (h : AH) (K : Int32 → AH → Prop) (T : String → AH → Prop) : Prop :=
  (isO h a0 8) ∧ (isA h (mR h a0 0) 3) ∧ ∀ v3 : Int32, v3 = ((a1 <<< (mI h a0 1 &&& 31)) - nI (ln h (mR h a0 0))) → wJ8_newLength_cabcc (nI (ln h (mR h a0 0))) v3 (nI (ln h (mR h a0 0)) + (2 <<< (mI h a0 1 &&& 31))) h (fun r6 h5 => ((¬ r6 = 2147483647 → (isO h5 a0 8) ∧ K (r6 >>> (mI h5 a0 1 &&& 31)) h5) ∧ (r6 = 2147483647 → False))) T
def wJ7_copyOf_9075b (a0 : Nat) (a1 : Int32) (h : AH) (K : Nat → AH → Prop) : Prop :=
  (isA h a0 3) ∧ ((¬ a1 = nI (ln h a0) → (¬ a1 < 0) ∧ (a1.toNatClampNeg ≤ 256) ∧ ∀ h5, h5 = nw h 103 a1.toNatClampNeg → (isA h5 a0 3) ∧ (isA h5 (mN h) 3) ∧ (nZ ≤ a0) ∧ (nZ ≤ (mN h)) ∧ (¬ (if a1 < nI (ln h5 a0) then a1 else nI (ln h5 a0)) < 0) ∧ ((0 : Int32).toNatClampNeg + (if a1 < nI (ln h5 a0) then a1 else nI (ln h5 a0)).toNatClampNeg ≤ ln h5 a0) ∧ ((0 : Int32).toNatClampNeg + (if a1 < nI (ln h5 a0) then a1 else nI (ln h5 a0)).toNatClampNeg ≤ ln h5 (mN h)) ∧ (∀ i, i < (if a1 < nI (ln h5 a0) then a1 else nI (ln h5 a0)).toNatClampNeg → fits .byte (.int (mI h5 a0 ((0 : Int32).toNatClampNeg + i))) = true) ∧ ∀ h14, h14 = uA h5 (mN h) (va_cpy (mI h5 a0) (mI h5 (mN h)) (0 : Int32).toNatClampNeg (0 : Int32).toNatClampNeg (if a1 < nI (ln h5 a0) then a1 else nI (ln h5 a0)).toNatClampNeg) → K (mN h) h14) ∧ (a1 = nI (ln h a0) → False))
def wJ5_ensureCapacityInternal_d00df (a0 : Nat) (a1 : Int32) (h : AH) (K : AH → Prop) (T : String → AH → Prop) : Prop :=
  (isO h a0 8) ∧ (isA h (mR h a0 0) 3) ∧ ∀ v3 : Int32, v3 = (nI (ln h (mR h a0 0)) >>> (mI h a0 1 &&& 31)) → (((a1 - v3) ≤ 0 → K h) ∧ (¬ (a1 - v3) ≤ 0 → wJ5_newCapacity_0f7a4 a0 a1 h (fun r7 h6 => (isO h6 a0 8) ∧ wJ7_copyOf_9075b (mR h a0 0) (r7 <<< (mI h6 a0 1 &&& 31)) h6 (fun r10 h9 => (isO h9 a0 8) ∧ ∀ h12, h12 = uR h9 a0 0 r10 → K h12)) T))
def wJ2_putCharsAt_cd4e5 (a0 : Nat) (a1 : Int32) (a2 : Int32) (a3 : Int32) (a4 : Int32) (a5 : Int32) (h : AH) (K : Int32 → AH → Prop) : Prop :=
  wJ2_checkBoundsBeginEnd_d044e a1 (a1 + 4) a0 h (fun h1 => wJ2_putChar_b72d1 a0 a1 a2 h1 (fun h3 => wJ2_putChar_b72d1 a0 (a1 + 1) a3 h3 (fun h5 => wJ2_putChar_b72d1 a0 ((a1 + 1) + 1) a4 h5 (fun h7 => wJ2_putChar_b72d1 a0 (((a1 + 1) + 1) + 1) a5 h7 (fun h9 => False)))))
def wJ5_appendNull_278bc_J76 (K : Nat → AH → Prop) (T : String → AH → Prop)  (x0 : Nat) (x1 : Int32) (h : AH) : Prop :=
  (isO h x0 8) ∧ ∀ h11, h11 = uI h x0 3 x1 → K x0 h11
def wJ5_appendNull_278bc (a0 : Nat) (h : AH) (K : Nat → AH → Prop) (T : String → AH → Prop) : Prop :=
  (isO h a0 8) ∧ wJ5_ensureCapacityInternal_d00df a0 (mI h a0 3 + 4) h (fun h2 => (isO h2 a0 8) ∧ wJ5_isLatin1_aae02 a0 h2 (fun r6 h5 => ((r6 = 0 → wJ2_putCharsAt_cd4e5 (mR h2 a0 0) (mI h2 a0 3) 110 117 108 108 h5 (fun r9 h8 => (wJ5_appendNull_278bc_J76 K T a0 r9 h8))) ∧ (¬ r6 = 0 → (isA h5 (mR h2 a0 0) 3) ∧ (nZ ≤ (mR h2 a0 0)) ∧ (vp_in (mI h2 a0 3) (ln h5 (mR h2 a0 0))) ∧ ∀ h15, h15 = uI h5 (mR h2 a0 0) (mI h2 a0 3).toNatClampNeg (vp_nar .byte 110) → (vp_in (mI h2 a0 3 + 1) (ln h5 (mR h2 a0 0))) ∧ ∀ h17, h17 = uI h15 (mR h2 a0 0) (mI h2 a0 3 + 1).toNatClampNeg (vp_nar .byte 117) → (vp_in ((mI h2 a0 3 + 1) + 1) (ln h5 (mR h2 a0 0))) ∧ ∀ h19, h19 = uI h17 (mR h2 a0 0) ((mI h2 a0 3 + 1) + 1).toNatClampNeg (vp_nar .byte 108) → (vp_in (((mI h2 a0 3 + 1) + 1) + 1) (ln h5 (mR h2 a0 0))) ∧ ∀ h21, h21 = uI h19 (mR h2 a0 0) (((mI h2 a0 3 + 1) + 1) + 1).toNatClampNeg (vp_nar .byte 108) → (wJ5_appendNull_278bc_J76 K T a0 ((((mI h2 a0 3 + 1) + 1) + 1) + 1) h21))))) T
def wJ0_coder_7d493 (a0 : Nat) (h : AH) (K : Int32 → AH → Prop) : Prop :=
  ((1 = 0 → K 1 h) ∧ (¬ 1 = 0 → (mS h a0 = (20, 0)) ∧ (a0 < nZ) ∧ (narrow .byte (.int (mI h a0 1)) = .int (mI h a0 1)) ∧ K (mI h a0 1) h))
def wJ0_length_8abf5 (a0 : Nat) (h : AH) (K : Int32 → AH → Prop) : Prop :=
  (mS h a0 = (20, 0)) ∧ (a0 < nZ) ∧ (isA h (mR h a0 0) 3) ∧ wJ0_coder_7d493 a0 h (fun r5 h4 => K (nI (ln h (mR h a0 0)) >>> (r5 &&& 31)) h4)
def wJ2_inflate_0e8fd_L10 (K : AH → Prop)  (x0 : Nat) (x2 : Nat) (x4 : Int32) : Nat → Int32 → Int32 → Int32 → AH → Prop
  | 0 => fun _ _ _ _ => False
  | n + 1 => fun x1 x3 x5 h =>
  ((x4 ≤ x5 → K h) ∧ (¬ x4 ≤ x5 → (isA h x0 3) ∧ (vp_in x1 (ln h x0)) ∧ wJ2_putChar_b72d1 x2 x3 (mI h x0 x1.toNatClampNeg &&& 255) h (fun h6 => wJ2_inflate_0e8fd_L10 K  x0 x2 x4 n x0 (x1 + 1) x2 (x3 + 1) x4 (x5 + 1) h6)))
def wJ2_inflate_0e8fd (a0 : Nat) (a1 : Int32) (a2 : Nat) (a3 : Int32) (a4 : Int32) (h : AH) (K : AH → Prop) : Prop :=
  wJ2_checkBoundsOffCount_d044e a3 a4 a2 h (fun h1 => (∃ n8, wJ2_inflate_0e8fd_L10 K a0 a2 a4 n8 a1 a3 0 h1))
def wJ1_inflate_0e8fd (a0 : Nat) (a1 : Int32) (a2 : Nat) (a3 : Int32) (a4 : Int32) (h : AH) (K : AH → Prop) : Prop :=
  wJ2_inflate_0e8fd a0 a1 a2 a3 a4 h (fun h1 => K h1)
def wJ5_inflate_da8c8 (a0 : Nat) (h : AH) (K : AH → Prop) : Prop :=
  (isO h a0 8) ∧ wJ5_isLatin1_aae02 a0 h (fun r2 h1 => ((¬ r2 = 0 → False) ∧ (r2 = 0 → K h1)))
def wJ5_inflateIfNeededFor_a7421 (a0 : Nat) (a1 : Nat) (h : AH) (K : AH → Prop) : Prop :=
  ((1 = 0 → K h) ∧ (¬ 1 = 0 → (isO h a0 8) ∧ (mS h a1 = (20, 0)) ∧ (a1 < nZ) ∧ wJ0_coder_7d493 a1 h (fun r4 h3 => ((mI h a0 1 = r4 → K h3) ∧ (¬ mI h a0 1 = r4 → False)))))
def wJ0_getBytes_840e7 (a0 : Nat) (a1 : Nat) (a2 : Int32) (a3 : Int32) (h : AH) (K : AH → Prop) : Prop :=
  (mS h a0 = (20, 0)) ∧ (a0 < nZ) ∧ wJ0_coder_7d493 a0 h (fun r2 h1 => ((¬ r2 = a3 → (mS h1 a0 = (20, 0)) ∧ (a0 < nZ) ∧ (isA h1 (mR h1 a0 0) 3) ∧ wJ1_inflate_0e8fd (mR h1 a0 0) 0 a1 a2 (nI (ln h1 (mR h1 a0 0))) h1 (fun h7 => K h7)) ∧ (r2 = a3 → (mS h1 a0 = (20, 0)) ∧ (a0 < nZ) ∧ (isA h1 (mR h1 a0 0) 3) ∧ (isA h1 a1 3) ∧ (nZ ≤ (mR h1 a0 0)) ∧ (nZ ≤ a1) ∧ (¬ (a2 <<< (a3 &&& 31)) < 0) ∧ (¬ nI (ln h1 (mR h1 a0 0)) < 0) ∧ ((0 : Int32).toNatClampNeg + (nI (ln h1 (mR h1 a0 0))).toNatClampNeg ≤ ln h1 (mR h1 a0 0)) ∧ ((a2 <<< (a3 &&& 31)).toNatClampNeg + (nI (ln h1 (mR h1 a0 0))).toNatClampNeg ≤ ln h1 a1) ∧ (∀ i, i < (nI (ln h1 (mR h1 a0 0))).toNatClampNeg → fits .byte (.int (mI h1 (mR h1 a0 0) ((0 : Int32).toNatClampNeg + i))) = true) ∧ ∀ h20, h20 = uA h1 a1 (va_cpy (mI h1 (mR h1 a0 0)) (mI h1 a1) (0 : Int32).toNatClampNeg (a2 <<< (a3 &&& 31)).toNatClampNeg (nI (ln h1 (mR h1 a0 0))).toNatClampNeg) → K h20)))
def wJ5_putStringAt_47b60 (a0 : Nat) (a1 : Int32) (a2 : Nat) (h : AH) (K : AH → Prop) : Prop :=
  False
def wJ5_append_cf1ce (a0 : Nat) (a1 : Nat) (h : AH) (K : Nat → AH → Prop) (T : String → AH → Prop) : Prop :=
  ((a1 = 0 → False) ∧ (¬ a1 = 0 → (mS h a1 = (20, 0)) ∧ (a1 < nZ) ∧ wJ0_length_8abf5 a1 h (fun r5 h4 => (isO h4 a0 8) ∧ wJ5_ensureCapacityInternal_d00df a0 (mI h4 a0 3 + r5) h4 (fun h7 => False) T)))
def wJ4_append_15ec4 (a0 : Nat) (a1 : Nat) (h : AH) (K : Nat → AH → Prop) (T : String → AH → Prop) : Prop :=
  (isO h a0 8) ∧ wJ5_append_cf1ce a0 a1 h (fun r2 h1 => K a0 h1) T
def wJ2_newBytesLength_0f7a4 (a0 : Int32) (h : AH) (K : Int32 → AH → Prop) (T : String → AH → Prop) : Prop :=
  ((0 ≤ a0 → ((a0 < 1073741823 → K (a0 <<< (1 &&& 31)) h) ∧ (¬ a0 < 1073741823 → False))) ∧ (¬ 0 ≤ a0 → False))
def wJ2_newBytesFor_77867 (a0 : Int32) (h : AH) (K : Nat → AH → Prop) (T : String → AH → Prop) : Prop :=
  wJ2_newBytesLength_0f7a4 a0 h (fun r2 h1 => (¬ r2 < 0) ∧ (r2.toNatClampNeg ≤ 256) ∧ ∀ h5, h5 = nw h1 103 r2.toNatClampNeg → K (mN h1) h5) T
def wJ5_init_d00df (a0 : Nat) (a1 : Int32) (h : AH) (K : AH → Prop) (T : String → AH → Prop) : Prop :=
  (¬ a0 = 0) ∧ ((1 = 0 → wJ2_newBytesFor_77867 a1 h (fun r4 h3 => (isO h3 a0 8) ∧ ∀ h6, h6 = uR h3 a0 0 r4 → ∀ h7, h7 = uI h6 a0 1 1 → K h7) T) ∧ (¬ 1 = 0 → (¬ a1 < 0) ∧ (a1.toNatClampNeg ≤ 256) ∧ ∀ h10, h10 = nw h 103 a1.toNatClampNeg → (isO h10 a0 8) ∧ ∀ h12, h12 = uR h10 a0 0 (mN h) → ∀ h13, h13 = uI h12 a0 1 0 → K h13))
def wJ4_init_da8c8 (a0 : Nat) (h : AH) (K : AH → Prop) (T : String → AH → Prop) : Prop :=
  (¬ a0 = 0) ∧ wJ5_init_d00df a0 16 h (fun h1 => K h1) T
def wX4_copyFrom_L102 (K : AH → Prop)  (x0 : Nat) (x1 : Nat) : Nat → Int32 → AH → Prop
  | 0 => fun _ _ => False
  | n + 1 => fun x2 h =>
  ((12 ≤ x2 → K h) ∧ (¬ 12 ≤ x2 → (isO h x1 2) ∧ (isA h (mR h x1 9) 8) ∧ (nZ ≤ (mR h x1 9)) ∧ (vp_in x2 (ln h (mR h x1 9))) ∧ (isO h x0 2) ∧ (isA h (mR h x0 9) 8) ∧ (nZ ≤ (mR h x0 9)) ∧ (vp_in x2 (ln h (mR h x0 9))) ∧ (isA h (mR h (mR h x1 9) x2.toNatClampNeg) 0) ∧ (isA h (mR h (mR h x0 9) x2.toNatClampNeg) 0) ∧ (nZ ≤ (mR h (mR h x1 9) x2.toNatClampNeg)) ∧ (nZ ≤ (mR h (mR h x0 9) x2.toNatClampNeg)) ∧ ((0 : Int32).toNatClampNeg + (12 : Int32).toNatClampNeg ≤ ln h (mR h (mR h x1 9) x2.toNatClampNeg)) ∧ ((0 : Int32).toNatClampNeg + (12 : Int32).toNatClampNeg ≤ ln h (mR h (mR h x0 9) x2.toNatClampNeg)) ∧ ∀ h51, h51 = uA h (mR h (mR h x0 9) x2.toNatClampNeg) (va_cpy (mI h (mR h (mR h x1 9) x2.toNatClampNeg)) (mI h (mR h (mR h x0 9) x2.toNatClampNeg)) (0 : Int32).toNatClampNeg (0 : Int32).toNatClampNeg (12 : Int32).toNatClampNeg) → (isA h (mR h x1 10) 8) ∧ (nZ ≤ (mR h x1 10)) ∧ (vp_in x2 (ln h (mR h x1 10))) ∧ (isA h (mR h x0 10) 8) ∧ (nZ ≤ (mR h x0 10)) ∧ (vp_in x2 (ln h (mR h x0 10))) ∧ (isA h (mR h (mR h x1 10) x2.toNatClampNeg) 0) ∧ (isA h (mR h (mR h x0 10) x2.toNatClampNeg) 0) ∧ (nZ ≤ (mR h (mR h x1 10) x2.toNatClampNeg)) ∧ (nZ ≤ (mR h (mR h x0 10) x2.toNatClampNeg)) ∧ ((0 : Int32).toNatClampNeg + (12 : Int32).toNatClampNeg ≤ ln h (mR h (mR h x1 10) x2.toNatClampNeg)) ∧ ((0 : Int32).toNatClampNeg + (12 : Int32).toNatClampNeg ≤ ln h (mR h (mR h x0 10) x2.toNatClampNeg)) ∧ ∀ h64, h64 = uA h51 (mR h (mR h x0 10) x2.toNatClampNeg) (va_cpy (mI h51 (mR h (mR h x1 10) x2.toNatClampNeg)) (mI h51 (mR h (mR h x0 10) x2.toNatClampNeg)) (0 : Int32).toNatClampNeg (0 : Int32).toNatClampNeg (12 : Int32).toNatClampNeg) → wX4_copyFrom_L102 K  x0 x1 n x0 x1 (x2 + 1) h64))
def wX4_copyFrom (a0 : Nat) (a1 : Nat) (h : AH) (K : AH → Prop) : Prop :=
  (isO h a1 2) ∧ (isO h a0 2) ∧ ∀ h3, h3 = uI h a0 0 (mI h a1 0) → ∀ h4, h4 = uI h3 a0 1 (mI h3 a1 1) → ∀ h5, h5 = uI h4 a0 2 (mI h4 a1 2) → ∀ h6, h6 = uI h5 a0 3 (mI h5 a1 3) → ∀ h7, h7 = uI h6 a0 4 (mI h6 a1 4) → (isA h (mR h a1 5) 0) ∧ (isA h (mR h a0 5) 0) ∧ (nZ ≤ (mR h a1 5)) ∧ (nZ ≤ (mR h a0 5)) ∧ ((0 : Int32).toNatClampNeg + (12 : Int32).toNatClampNeg ≤ ln h (mR h a1 5)) ∧ ((0 : Int32).toNatClampNeg + (12 : Int32).toNatClampNeg ≤ ln h (mR h a0 5)) ∧ ∀ h14, h14 = uA h7 (mR h a0 5) (va_cpy (mI h7 (mR h a1 5)) (mI h7 (mR h a0 5)) (0 : Int32).toNatClampNeg (0 : Int32).toNatClampNeg (12 : Int32).toNatClampNeg) → (isA h (mR h a1 6) 0) ∧ (isA h (mR h a0 6) 0) ∧ (nZ ≤ (mR h a1 6)) ∧ (nZ ≤ (mR h a0 6)) ∧ ((0 : Int32).toNatClampNeg + (12 : Int32).toNatClampNeg ≤ ln h (mR h a1 6)) ∧ ((0 : Int32).toNatClampNeg + (12 : Int32).toNatClampNeg ≤ ln h (mR h a0 6)) ∧ ∀ h21, h21 = uA h14 (mR h a0 6) (va_cpy (mI h14 (mR h a1 6)) (mI h14 (mR h a0 6)) (0 : Int32).toNatClampNeg (0 : Int32).toNatClampNeg (12 : Int32).toNatClampNeg) → (isA h (mR h a1 7) 0) ∧ (isA h (mR h a0 7) 0) ∧ (nZ ≤ (mR h a1 7)) ∧ (nZ ≤ (mR h a0 7)) ∧ ((0 : Int32).toNatClampNeg + (12 : Int32).toNatClampNeg ≤ ln h (mR h a1 7)) ∧ ((0 : Int32).toNatClampNeg + (12 : Int32).toNatClampNeg ≤ ln h (mR h a0 7)) ∧ ∀ h28, h28 = uA h21 (mR h a0 7) (va_cpy (mI h21 (mR h a1 7)) (mI h21 (mR h a0 7)) (0 : Int32).toNatClampNeg (0 : Int32).toNatClampNeg (12 : Int32).toNatClampNeg) → (isA h (mR h a1 8) 0) ∧ (isA h (mR h a0 8) 0) ∧ (nZ ≤ (mR h a1 8)) ∧ (nZ ≤ (mR h a0 8)) ∧ ((0 : Int32).toNatClampNeg + (8 : Int32).toNatClampNeg ≤ ln h (mR h a1 8)) ∧ ((0 : Int32).toNatClampNeg + (8 : Int32).toNatClampNeg ≤ ln h (mR h a0 8)) ∧ ∀ h35, h35 = uA h28 (mR h a0 8) (va_cpy (mI h28 (mR h a1 8)) (mI h28 (mR h a0 8)) (0 : Int32).toNatClampNeg (0 : Int32).toNatClampNeg (8 : Int32).toNatClampNeg) → (∃ n65, wX4_copyFrom_L102 K a0 a1 n65 0 h35)
def wX8_copyFrom (a0 : Nat) (a1 : Nat) (h : AH) (K : AH → Prop) : Prop :=
  (isO h a1 6) ∧ (isO h a0 6) ∧ ∀ h3, h3 = uI h a0 0 (mI h a1 0) → ∀ h4, h4 = uI h3 a0 1 (mI h3 a1 1) → ∀ h5, h5 = uI h4 a0 2 (mI h4 a1 2) → ∀ h6, h6 = uI h5 a0 3 (mI h5 a1 3) → ∀ h7, h7 = uI h6 a0 4 (mI h6 a1 4) → ∀ h8, h8 = uI h7 a0 5 (mI h7 a1 5) → K h8
def wX7_copyFrom_L13 (K : AH → Prop)  (x0 : Nat) (x1 : Nat) : Nat → Int32 → AH → Prop
  | 0 => fun _ _ => False
  | n + 1 => fun x2 h =>
  ((8 ≤ x2 → (isO h x1 5) ∧ (isO h x0 5) ∧ (isA h (mR h x1 2) 0) ∧ (isA h (mR h x0 2) 0) ∧ (nZ ≤ (mR h x1 2)) ∧ (nZ ≤ (mR h x0 2)) ∧ ((0 : Int32).toNatClampNeg + (8 : Int32).toNatClampNeg ≤ ln h (mR h x1 2)) ∧ ((0 : Int32).toNatClampNeg + (8 : Int32).toNatClampNeg ≤ ln h (mR h x0 2)) ∧ ∀ h14, h14 = uA h (mR h x0 2) (va_cpy (mI h (mR h x1 2)) (mI h (mR h x0 2)) (0 : Int32).toNatClampNeg (0 : Int32).toNatClampNeg (8 : Int32).toNatClampNeg) → ∀ h15, h15 = uI h14 x0 3 (mI h14 x1 3) → ∀ h16, h16 = uI h15 x0 4 (mI h15 x1 4) → ∀ h17, h17 = uI h16 x0 5 (mI h16 x1 5) → ∀ h18, h18 = uI h17 x0 6 (mI h17 x1 6) → ∀ h19, h19 = uI h18 x0 7 (mI h18 x1 7) → ∀ h20, h20 = uL h19 x0 8 (mL h19 x1 8) → K h20) ∧ (¬ 8 ≤ x2 → (isO h x0 5) ∧ (isA h (mR h x0 1) 6) ∧ (vp_in x2 (ln h (mR h x0 1))) ∧ (isO h x1 5) ∧ (isA h (mR h x1 1) 6) ∧ (vp_in x2 (ln h (mR h x1 1))) ∧ (isO h (mR h (mR h x0 1) x2.toNatClampNeg) 6) ∧ wX8_copyFrom (mR h (mR h x0 1) x2.toNatClampNeg) (mR h (mR h x1 1) x2.toNatClampNeg) h (fun h27 => wX7_copyFrom_L13 K  x0 x1 n x0 x1 (x2 + 1) h27)))
def wX7_copyFrom (a0 : Nat) (a1 : Nat) (h : AH) (K : AH → Prop) : Prop :=
  (isO h a0 5) ∧ (isO h a1 5) ∧ (isO h (mR h a0 0) 2) ∧ wX4_copyFrom (mR h a0 0) (mR h a1 0) h (fun h3 => (∃ n30, wX7_copyFrom_L13 K a0 a1 n30 0 h3))
def wX2_keep (a0 : Nat) (a1 : Nat) (h : AH) (K : AH → Prop) : Prop :=
  (isO h a0 1) ∧ (isA h (mR h a0 0) 5) ∧ (vp_in (mI h a0 1) (ln h (mR h a0 0))) ∧ (isO h (mR h (mR h a0 0) (mI h a0 1).toNatClampNeg) 5) ∧ wX7_copyFrom (mR h (mR h a0 0) (mI h a0 1).toNatClampNeg) a1 h (fun h4 => K h4)
def wJ7_fill_53178_L5 (K : AH → Prop)  (x0 : Nat) (x1 : Int32) (x3 : Int32) : Nat → Int32 → AH → Prop
  | 0 => fun _ _ => False
  | n + 1 => fun x2 h =>
  ((x3 ≤ x2 → K h) ∧ (¬ x3 ≤ x2 → (isA h x0 0) ∧ (nZ ≤ x0) ∧ (vp_in x2 (ln h x0)) ∧ ∀ h6, h6 = uI h x0 x2.toNatClampNeg x1 → wJ7_fill_53178_L5 K  x0 x1 x3 n x0 x1 (x2 + 1) x3 h6))
def wJ7_fill_53178 (a0 : Nat) (a1 : Int32) (h : AH) (K : AH → Prop) : Prop :=
  (isA h a0 0) ∧ (∃ n7, wJ7_fill_53178_L5 K a0 a1 (nI (ln h a0)) n7 0 h)
def wX9_contains (a0 : Int32) (a1 : Int32) (h : AH) (K : Int32 → AH → Prop) : Prop :=
  ((a1 < 0 → K 0 h) ∧ (¬ a1 < 0 → (((a0 &&& (1 <<< (a1 &&& 31))) = 0 → K 0 h) ∧ (¬ (a0 &&& (1 <<< (a1 &&& 31))) = 0 → K 1 h))))
def wX4_nearestBlock_L8 (K : Int32 → AH → Prop)  (x0 : Nat) (x1 : Int32) : Nat → Int32 → Int32 → Int32 → AH → Prop
  | 0 => fun _ _ _ _ => False
  | n + 1 => fun x2 x3 x4 h =>
  (isO h x0 2) ∧ ((mI h x0 0 ≤ x4 → K x2 h) ∧ (¬ mI h x0 0 ≤ x4 → wX9_contains x1 x4 h (fun r4 h3 => ((¬ r4 = 0 → wX4_nearestBlock_L8 K  x0 x1 n x0 x1 x2 x3 (x4 + 1) h3) ∧ (r4 = 0 → (isO h3 x0 2) ∧ (isA h3 (mR h3 x0 11) 0) ∧ (vp_in x4 (ln h3 (mR h3 x0 11))) ∧ ((x3 ≤ mI h3 (mR h3 x0 11) x4.toNatClampNeg → wX4_nearestBlock_L8 K  x0 x1 n x0 x1 x2 x3 (x4 + 1) h3) ∧ (¬ x3 ≤ mI h3 (mR h3 x0 11) x4.toNatClampNeg → wX4_nearestBlock_L8 K  x0 x1 n x0 x1 x4 (mI h3 (mR h3 x0 11) x4.toNatClampNeg) (x4 + 1) h3)))))))
def wX4_nearestBlock (a0 : Nat) (a1 : Int32) (h : AH) (K : Int32 → AH → Prop) : Prop :=
  (∃ n10, wX4_nearestBlock_L8 K a0 a1 n10 (-1) 1000000 0 h)
def wX4_has (a0 : Nat) (a1 : Int32) (h : AH) (K : Int32 → AH → Prop) : Prop :=
  ((a1 < 0 → K 0 h) ∧ (¬ a1 < 0 → (isO h a0 2) ∧ ((mI h a0 0 ≤ a1 → K 0 h) ∧ (¬ mI h a0 0 ≤ a1 → K 1 h))))
def wX4_leadsTo (a0 : Nat) (a1 : Int32) (a2 : Int32) (h : AH) (K : Int32 → AH → Prop) : Prop :=
  (isO h a0 2) ∧ wX4_has a0 a1 h (fun r2 h1 => ((r2 = 0 → K 0 h1) ∧ (¬ r2 = 0 → (isO h1 a0 2) ∧ (isA h1 (mR h1 a0 6) 0) ∧ (vp_in a1 (ln h1 (mR h1 a0 6))) ∧ ((mI h1 (mR h1 a0 6) a1.toNatClampNeg = a2 → K 1 h1) ∧ (¬ mI h1 (mR h1 a0 6) a1.toNatClampNeg = a2 → (isA h1 (mR h1 a0 7) 0) ∧ (vp_in a1 (ln h1 (mR h1 a0 7))) ∧ ((¬ mI h1 (mR h1 a0 7) a1.toNatClampNeg = a2 → K 0 h1) ∧ (mI h1 (mR h1 a0 7) a1.toNatClampNeg = a2 → K 1 h1)))))))
def wX4_learnRoutesTo_J176 (K : AH → Prop) (c129 : Nat → Nat → Nat → Int32 → Int32 → Int32 → Int32 → Int32 → AH → Prop) (x0 : Nat) (x2 : Nat) (x3 : Nat) (x4 : Int32) (x5 : Int32) (x6 : Int32) (x8 : Int32) (x9 : Int32) (y0 : Int32) (h : AH) : Prop :=
  ((y0 = 0 → c129 x0 x2 x3 x4 x5 x6 x8 (x9 + 1) h) ∧ (¬ y0 = 0 → (isO h x0 2) ∧ wX4_leadsTo x0 x9 x6 h (fun r42 h41 => ((r42 = 0 → c129 x0 x2 x3 x4 x5 x6 x8 (x9 + 1) h41) ∧ (¬ r42 = 0 → (isO h41 x0 2) ∧ (isA h41 (mR h41 x0 11) 0) ∧ (nZ ≤ (mR h41 x0 11)) ∧ (vp_in x9 (ln h41 (mR h41 x0 11))) ∧ ∀ h48, h48 = uI h41 (mR h41 x0 11) x9.toNatClampNeg x8 → (isA h41 x2 0) ∧ (nZ ≤ x2) ∧ (vp_in x9 (ln h41 x2)) ∧ ∀ h52, h52 = uI h48 x2 x9.toNatClampNeg x6 → c129 x0 x2 x3 x4 x5 x6 x8 (x9 + 1) h52)))))
def wX4_learnRoutesTo_J171 (K : AH → Prop) (c129 : Nat → Nat → Nat → Int32 → Int32 → Int32 → Int32 → Int32 → AH → Prop) (x0 : Nat) (x2 : Nat) (x3 : Nat) (x4 : Int32) (x5 : Int32) (x6 : Int32) (x8 : Int32) (x9 : Int32) (h : AH) : Prop :=
  (wX4_learnRoutesTo_J176 K c129 x0 x2 x3 x4 x5 x6 x8 x9 1 h)
def wX4_learnRoutesTo_J175 (K : AH → Prop) (c129 : Nat → Nat → Nat → Int32 → Int32 → Int32 → Int32 → Int32 → AH → Prop) (x0 : Nat) (x2 : Nat) (x3 : Nat) (x4 : Int32) (x5 : Int32) (x6 : Int32) (x8 : Int32) (x9 : Int32) (h : AH) : Prop :=
  (wX4_learnRoutesTo_J176 K c129 x0 x2 x3 x4 x5 x6 x8 x9 0 h)
def wX4_learnRoutesTo_L129 (K : AH → Prop) (c215 : Nat → Nat → Nat → Int32 → Int32 → AH → Prop) (x0 : Nat) (x2 : Nat) (x3 : Nat) (x4 : Int32) (x5 : Int32) (x6 : Int32) (x8 : Int32) : Nat → Int32 → AH → Prop
  | 0 => fun _ _ => False
  | n + 1 => fun x9 h =>
  (isO h x0 2) ∧ ((mI h x0 0 ≤ x9 → c215 x0 x2 x3 x4 x5 h) ∧ (¬ mI h x0 0 ≤ x9 → (isA h (mR h x0 11) 0) ∧ (vp_in x9 (ln h (mR h x0 11))) ∧ ((x8 < mI h (mR h x0 11) x9.toNatClampNeg → (wX4_learnRoutesTo_J171 K (wX4_learnRoutesTo_L129 K c215 x0 x2 x3 x4 x5 x6 x8 n) x0 x2 x3 x4 x5 x6 x8 x9 h)) ∧ (¬ x8 < mI h (mR h x0 11) x9.toNatClampNeg → ((¬ x8 = mI h (mR h x0 11) x9.toNatClampNeg → (wX4_learnRoutesTo_J175 K (wX4_learnRoutesTo_L129 K c215 x0 x2 x3 x4 x5 x6 x8 n) x0 x2 x3 x4 x5 x6 x8 x9 h)) ∧ (x8 = mI h (mR h x0 11) x9.toNatClampNeg → (isA h x2 0) ∧ (vp_in x9 (ln h x2)) ∧ ((mI h x2 x9.toNatClampNeg ≤ x6 → (wX4_learnRoutesTo_J175 K (wX4_learnRoutesTo_L129 K c215 x0 x2 x3 x4 x5 x6 x8 n) x0 x2 x3 x4 x5 x6 x8 x9 h)) ∧ (¬ mI h x2 x9.toNatClampNeg ≤ x6 → (wX4_learnRoutesTo_J171 K (wX4_learnRoutesTo_L129 K c215 x0 x2 x3 x4 x5 x6 x8 n) x0 x2 x3 x4 x5 x6 x8 x9 h)))))))))
def wX4_learnRoutesTo_J104 (K : AH → Prop) (c46 : Nat → Nat → Nat → Int32 → Int32 → AH → Prop) (x0 : Nat) (x2 : Nat) (x3 : Nat) (x4 : Int32) (x5 : Int32) (x6 : Int32) (h : AH) : Prop :=
  (isO h x0 2) ∧ (isA h (mR h x0 11) 0) ∧ (vp_in x6 (ln h (mR h x0 11))) ∧ (isA h (mR h x0 5) 0) ∧ (vp_in x6 (ln h (mR h x0 5))) ∧ ∀ v33 : Int32, v33 = ((mI h (mR h x0 11) x6.toNatClampNeg + (mI h (mR h x0 5) x6.toNatClampNeg * 16)) + 1) → (∃ n64, wX4_learnRoutesTo_L129 K (fun x0_58 x2_59 x3_60 x4_61 x5_62 h63 => c46 x0_58 x2_59 x3_60 x4_61 (x5_62 + 1) h63) x0 x2 x3 x4 x5 x6 v33 n64 0 h)
def wX4_learnRoutesTo_L46 (K : AH → Prop)  (x0 : Nat) (x2 : Nat) (x3 : Nat) : Nat → Int32 → Int32 → AH → Prop
  | 0 => fun _ _ _ => False
  | n + 1 => fun x4 x5 h =>
  (isO h x0 2) ∧ ((mI h x0 0 ≤ x5 → K h) ∧ (¬ mI h x0 0 ≤ x5 → wX4_nearestBlock x0 x4 h (fun r23 h22 => ((¬ r23 = (-1) → (isA h22 x2 0) ∧ (vp_in r23 (ln h22 x2)) ∧ ((mI h22 x2 r23.toNatClampNeg = (-1) → (wX4_learnRoutesTo_J104 K (wX4_learnRoutesTo_L46 K  x0 x2 x3 n) x0 x2 x3 (x4 ||| (1 <<< (r23 &&& 31))) x5 r23 h22)) ∧ (¬ mI h22 x2 r23.toNatClampNeg = (-1) → (isA h22 x3 0) ∧ (vp_in (mI h22 x2 r23.toNatClampNeg) (ln h22 x3)) ∧ (nZ ≤ x3) ∧ (vp_in r23 (ln h22 x3)) ∧ ∀ h69, h69 = uI h22 x3 r23.toNatClampNeg (mI h22 x3 (mI h22 x2 r23.toNatClampNeg).toNatClampNeg ||| (1 <<< (mI h22 x2 r23.toNatClampNeg &&& 31))) → (wX4_learnRoutesTo_J104 K (wX4_learnRoutesTo_L46 K  x0 x2 x3 n) x0 x2 x3 (x4 ||| (1 <<< (r23 &&& 31))) x5 r23 h69)))) ∧ (r23 = (-1) → K h22)))))
def wX4_learnRoutesTo (a0 : Nat) (a1 : Int32) (h : AH) (K : AH → Prop) : Prop :=
  (isO h a0 2) ∧ (isA h (mR h a0 9) 8) ∧ (nZ ≤ (mR h a0 9)) ∧ (vp_in a1 (ln h (mR h a0 9))) ∧ (isA h (mR h a0 10) 8) ∧ (nZ ≤ (mR h a0 10)) ∧ (vp_in a1 (ln h (mR h a0 10))) ∧ wJ7_fill_53178 (mR h (mR h a0 9) a1.toNatClampNeg) (-1) h (fun h8 => wJ7_fill_53178 (mR h (mR h a0 10) a1.toNatClampNeg) 0 h8 (fun h10 => (isO h10 a0 2) ∧ wJ7_fill_53178 (mR h10 a0 11) 1000000 h10 (fun h13 => (isO h13 a0 2) ∧ (isA h13 (mR h13 a0 11) 0) ∧ (nZ ≤ (mR h13 a0 11)) ∧ (vp_in a1 (ln h13 (mR h13 a0 11))) ∧ ∀ h19, h19 = uI h13 (mR h13 a0 11) a1.toNatClampNeg 0 → (∃ n70, wX4_learnRoutesTo_L46 K a0 (mR h (mR h a0 9) a1.toNatClampNeg) (mR h (mR h a0 10) a1.toNatClampNeg) n70 0 0 h19))))
def wX4_learnRoutes_L2 (K : AH → Prop)  (x0 : Nat) : Nat → Int32 → AH → Prop
  | 0 => fun _ _ => False
  | n + 1 => fun x1 h =>
  (isO h x0 2) ∧ ((mI h x0 0 ≤ x1 → K h) ∧ (¬ mI h x0 0 ≤ x1 → wX4_learnRoutesTo x0 x1 h (fun h3 => wX4_learnRoutes_L2 K  x0 n x0 (x1 + 1) h3)))
def wX4_learnRoutes (a0 : Nat) (h : AH) (K : AH → Prop) : Prop :=
  (∃ n5, wX4_learnRoutes_L2 K a0 n5 0 h)
def wX4_makeBlock (a0 : Nat) (a1 : Int32) (h : AH) (K : Int32 → AH → Prop) : Prop :=
  ((a1 < 1 → K (-2) h) ∧ (¬ a1 < 1 → ((a1 ≤ 9 → (isO h a0 2) ∧ ((mI h a0 0 < 12 → (isA h (mR h a0 5) 0) ∧ (nZ ≤ (mR h a0 5)) ∧ (vp_in (mI h a0 0) (ln h (mR h a0 5))) ∧ ∀ h8, h8 = uI h (mR h a0 5) (mI h a0 0).toNatClampNeg a1 → (isA h (mR h a0 6) 0) ∧ (nZ ≤ (mR h a0 6)) ∧ (vp_in (mI h8 a0 0) (ln h (mR h a0 6))) ∧ ∀ h12, h12 = uI h8 (mR h a0 6) (mI h8 a0 0).toNatClampNeg (-1) → (isA h (mR h a0 7) 0) ∧ (nZ ≤ (mR h a0 7)) ∧ (vp_in (mI h12 a0 0) (ln h (mR h a0 7))) ∧ ∀ h16, h16 = uI h12 (mR h a0 7) (mI h12 a0 0).toNatClampNeg (-1) → ∀ h17, h17 = uI h16 a0 0 (mI h16 a0 0 + 1) → wX4_learnRoutes a0 h17 (fun h18 => (isO h18 a0 2) ∧ K (mI h18 a0 0 - 1) h18)) ∧ (¬ mI h a0 0 < 12 → K (-3) h))) ∧ (¬ a1 ≤ 9 → K (-2) h))))
def wX9_throwFor (a0 : Int32) (h : AH) (K : AH → Prop) (T : String → AH → Prop) : Prop :=
  ((¬ a0 = (-1) → ((¬ a0 = (-2) → ((¬ a0 = (-4) → ((¬ a0 = (-5) → T "java/lang/IllegalStateException" h) ∧ (a0 = (-5) → T "java/lang/UnsupportedOperationException" h))) ∧ (a0 = (-4) → T "java/util/NoSuchElementException" h))) ∧ (a0 = (-2) → T "java/lang/IllegalArgumentException" h))) ∧ (a0 = (-1) → T "java/lang/IndexOutOfBoundsException" h))
def wX2_commit (a0 : Nat) (h : AH) (K : AH → Prop) : Prop :=
  (isO h a0 1) ∧ ∀ h2, h2 = uI h a0 1 ((mI h a0 1 + 1) - (mI h a0 1 + 1) / 9 * 9) → ∀ h3, h3 = uI h2 a0 2 (if 8 < (mI h2 a0 2 + 1) then 8 else (mI h2 a0 2 + 1)) → K h3
def wX9_settle_J8 (K : Int32 → AH → Prop) (T : String → AH → Prop)  (x0 : Nat) (x1 : Int32) (h : AH) : Prop :=
  (isO h x0 0) ∧ (isO h (mR h x0 3) 1) ∧ wX2_commit (mR h x0 3) h (fun h3 => K x1 h3)
def wX9_settle (a0 : Nat) (a1 : Int32) (h : AH) (K : Int32 → AH → Prop) (T : String → AH → Prop) : Prop :=
  ((0 ≤ a1 → (wX9_settle_J8 K T a0 a1 h)) ∧ (¬ 0 ≤ a1 → wX9_throwFor a1 h (fun h6 => (wX9_settle_J8 K T a0 a1 h6)) T))
def wX9_addBlock (a0 : Nat) (a1 : Int32) (h : AH) (K : Int32 → AH → Prop) (T : String → AH → Prop) : Prop :=
  (isO h a0 0) ∧ (isO h (mR h a0 3) 1) ∧ wX2_keep (mR h a0 3) (mR h a0 0) h (fun h2 => (isO h2 a0 0) ∧ (isO h2 (mR h2 a0 0) 5) ∧ (isO h2 (mR h2 (mR h2 a0 0) 0) 2) ∧ wX4_makeBlock (mR h2 (mR h2 a0 0) 0) a1 h2 (fun r7 h6 => (isO h6 a0 0) ∧ wX9_settle a0 r7 h6 (fun r9 h8 => K r9 h8) T))
def wX4_hasExit (a0 : Nat) (a1 : Int32) (h : AH) (K : Int32 → AH → Prop) : Prop :=
  (isO h a0 2) ∧ wX4_has a0 a1 h (fun r2 h1 => ((r2 = 0 → K 0 h1) ∧ (¬ r2 = 0 → (isO h1 a0 2) ∧ (isA h1 (mR h1 a0 6) 0) ∧ (vp_in a1 (ln h1 (mR h1 a0 6))) ∧ ((mI h1 (mR h1 a0 6) a1.toNatClampNeg = (-1) → K 0 h1) ∧ (¬ mI h1 (mR h1 a0 6) a1.toNatClampNeg = (-1) → K 1 h1)))))
def wX4_makePoint (a0 : Nat) (a1 : Int32) (a2 : Int32) (a3 : Int32) (h : AH) (K : Int32 → AH → Prop) : Prop :=
  (isO h a0 2) ∧ wX4_has a0 a1 h (fun r2 h1 => ((r2 = 0 → K (-1) h1) ∧ (¬ r2 = 0 → (isO h1 a0 2) ∧ wX4_has a0 a2 h1 (fun r5 h4 => ((r5 = 0 → K (-1) h4) ∧ (¬ r5 = 0 → (isO h4 a0 2) ∧ wX4_has a0 a3 h4 (fun r8 h7 => ((¬ r8 = 0 → ((a1 = a2 → K (-2) h7) ∧ (¬ a1 = a2 → ((a1 = a3 → K (-2) h7) ∧ (¬ a1 = a3 → ((¬ a2 = a3 → (isO h7 a0 2) ∧ ((8 ≤ mI h7 a0 1 → K (-3) h7) ∧ (¬ 8 ≤ mI h7 a0 1 → wX4_hasExit a0 a1 h7 (fun r16 h15 => ((r16 = 0 → (isO h15 a0 2) ∧ (isA h15 (mR h15 a0 6) 0) ∧ (nZ ≤ (mR h15 a0 6)) ∧ (vp_in a1 (ln h15 (mR h15 a0 6))) ∧ ∀ h22, h22 = uI h15 (mR h15 a0 6) a1.toNatClampNeg a2 → (isA h15 (mR h15 a0 7) 0) ∧ (nZ ≤ (mR h15 a0 7)) ∧ (vp_in a1 (ln h15 (mR h15 a0 7))) ∧ ∀ h26, h26 = uI h22 (mR h15 a0 7) a1.toNatClampNeg a3 → (isA h15 (mR h15 a0 8) 0) ∧ (nZ ≤ (mR h15 a0 8)) ∧ (vp_in (mI h26 a0 1) (ln h15 (mR h15 a0 8))) ∧ ∀ h30, h30 = uI h26 (mR h15 a0 8) (mI h26 a0 1).toNatClampNeg a1 → ∀ h31, h31 = uI h30 a0 1 (mI h30 a0 1 + 1) → wX4_learnRoutes a0 h31 (fun h32 => (isO h32 a0 2) ∧ K (mI h32 a0 1 - 1) h32)) ∧ (¬ r16 = 0 → K (-3) h15)))))) ∧ (a2 = a3 → K (-2) h7))))))) ∧ (r8 = 0 → K (-1) h7)))))))))
def wX9_addPoint (a0 : Nat) (a1 : Int32) (a2 : Int32) (a3 : Int32) (h : AH) (K : Int32 → AH → Prop) (T : String → AH → Prop) : Prop :=
  (isO h a0 0) ∧ (isO h (mR h a0 3) 1) ∧ wX2_keep (mR h a0 3) (mR h a0 0) h (fun h2 => (isO h2 a0 0) ∧ (isO h2 (mR h2 a0 0) 5) ∧ (isO h2 (mR h2 (mR h2 a0 0) 0) 2) ∧ wX4_makePoint (mR h2 (mR h2 a0 0) 0) a1 a2 a3 h2 (fun r7 h6 => (isO h6 a0 0) ∧ wX9_settle a0 r7 h6 (fun r9 h8 => K r9 h8) T))
def wX4_makeLink (a0 : Nat) (a1 : Int32) (a2 : Int32) (h : AH) (K : Int32 → AH → Prop) : Prop :=
  (isO h a0 2) ∧ wX4_has a0 a1 h (fun r2 h1 => ((r2 = 0 → K (-1) h1) ∧ (¬ r2 = 0 → (isO h1 a0 2) ∧ wX4_has a0 a2 h1 (fun r5 h4 => ((¬ r5 = 0 → ((¬ a1 = a2 → (isO h4 a0 2) ∧ wX4_hasExit a0 a1 h4 (fun r9 h8 => ((r9 = 0 → (isO h8 a0 2) ∧ (isA h8 (mR h8 a0 6) 0) ∧ (nZ ≤ (mR h8 a0 6)) ∧ (vp_in a1 (ln h8 (mR h8 a0 6))) ∧ ∀ h15, h15 = uI h8 (mR h8 a0 6) a1.toNatClampNeg a2 → (isA h8 (mR h8 a0 7) 0) ∧ (nZ ≤ (mR h8 a0 7)) ∧ (vp_in a1 (ln h8 (mR h8 a0 7))) ∧ ∀ h19, h19 = uI h15 (mR h8 a0 7) a1.toNatClampNeg a2 → ∀ h20, h20 = uI h19 a0 2 (mI h19 a0 2 + 1) → wX4_learnRoutes a0 h20 (fun h21 => (isO h21 a0 2) ∧ K (mI h21 a0 2) h21)) ∧ (¬ r9 = 0 → K (-3) h8)))) ∧ (a1 = a2 → K (-2) h4))) ∧ (r5 = 0 → K (-1) h4))))))
def wX9_addLink (a0 : Nat) (a1 : Int32) (a2 : Int32) (h : AH) (K : Int32 → AH → Prop) (T : String → AH → Prop) : Prop :=
  (isO h a0 0) ∧ (isO h (mR h a0 3) 1) ∧ wX2_keep (mR h a0 3) (mR h a0 0) h (fun h2 => (isO h2 a0 0) ∧ (isO h2 (mR h2 a0 0) 5) ∧ (isO h2 (mR h2 (mR h2 a0 0) 0) 2) ∧ wX4_makeLink (mR h2 (mR h2 a0 0) 0) a1 a2 h2 (fun r7 h6 => (isO h6 a0 0) ∧ wX9_settle a0 r7 h6 (fun r9 h8 => K r9 h8) T))
def wX7_isReserved_L2 (K : Int32 → AH → Prop)  (x0 : Nat) (x1 : Int32) : Nat → Int32 → AH → Prop
  | 0 => fun _ _ => False
  | n + 1 => fun x2 h =>
  (isO h x0 5) ∧ ((mI h x0 3 ≤ x2 → K 0 h) ∧ (¬ mI h x0 3 ≤ x2 → (isA h (mR h x0 1) 6) ∧ (vp_in x2 (ln h (mR h x0 1))) ∧ (isO h (mR h (mR h x0 1) x2.toNatClampNeg) 6) ∧ wX9_contains (mI h (mR h (mR h x0 1) x2.toNatClampNeg) 3) x1 h (fun r7 h6 => ((r7 = 0 → wX7_isReserved_L2 K  x0 x1 n x0 x1 (x2 + 1) h6) ∧ (¬ r7 = 0 → K 1 h6)))))
def wX7_isReserved (a0 : Nat) (a1 : Int32) (h : AH) (K : Int32 → AH → Prop) : Prop :=
  (∃ n9, wX7_isReserved_L2 K a0 a1 n9 0 h)
def wJ6_bitCount_0f7a4 (a0 : Int32) (h : AH) (K : Int32 → AH → Prop) : Prop :=
  ∀ v1 : Int32, v1 = (a0 - ((a0.toUInt32 >>> (1.toUInt32 &&& Int32.toUInt32 31)).toInt32 &&& 1431655765)) → ∀ v3 : Int32, v3 = ((v1 &&& 858993459) + ((v1.toUInt32 >>> (2.toUInt32 &&& Int32.toUInt32 31)).toInt32 &&& 858993459)) → ∀ v5 : Int32, v5 = ((v3 + (v3.toUInt32 >>> (4.toUInt32 &&& Int32.toUInt32 31)).toInt32) &&& 252645135) → ∀ v7 : Int32, v7 = (v5 + (v5.toUInt32 >>> (8.toUInt32 &&& Int32.toUInt32 31)).toInt32) → ∀ v9 : Int32, v9 = (v7 + (v7.toUInt32 >>> (16.toUInt32 &&& Int32.toUInt32 31)).toInt32) → K (v9 &&& 63) h
def wX7_shutBlock (a0 : Nat) (a1 : Int32) (h : AH) (K : Int32 → AH → Prop) : Prop :=
  (isO h a0 5) ∧ (isO h (mR h a0 0) 2) ∧ wX4_has (mR h a0 0) a1 h (fun r3 h2 => ((¬ r3 = 0 → (isO h2 a0 5) ∧ (isO h2 (mR h2 a0 0) 2) ∧ wX9_contains (mI h2 (mR h2 a0 0) 3) a1 h2 (fun r8 h7 => ((¬ r8 = 0 → K (-3) h7) ∧ (r8 = 0 → (isO h7 a0 5) ∧ wX7_isReserved a0 a1 h7 (fun r11 h10 => ((r11 = 0 → (isO h10 a0 5) ∧ (isO h10 (mR h10 a0 0) 2) ∧ ∀ h15, h15 = uI h10 (mR h10 a0 0) 3 (mI h10 (mR h10 a0 0) 3 ||| (1 <<< (a1 &&& 31))) → wJ6_bitCount_0f7a4 (mI h15 (mR h10 a0 0) 3) h15 (fun r17 h16 => K r17 h16)) ∧ (¬ r11 = 0 → K (-3) h10))))))) ∧ (r3 = 0 → K (-1) h2)))
def wX9_shut (a0 : Nat) (a1 : Int32) (h : AH) (K : Int32 → AH → Prop) (T : String → AH → Prop) : Prop :=
  (isO h a0 0) ∧ (isO h (mR h a0 3) 1) ∧ wX2_keep (mR h a0 3) (mR h a0 0) h (fun h2 => (isO h2 a0 0) ∧ (isO h2 (mR h2 a0 0) 5) ∧ wX7_shutBlock (mR h2 a0 0) a1 h2 (fun r6 h5 => (isO h5 a0 0) ∧ wX9_settle a0 r6 h5 (fun r8 h7 => K r8 h7) T))
def wX7_openBlock (a0 : Nat) (a1 : Int32) (h : AH) (K : Int32 → AH → Prop) : Prop :=
  (isO h a0 5) ∧ (isO h (mR h a0 0) 2) ∧ wX4_has (mR h a0 0) a1 h (fun r3 h2 => ((¬ r3 = 0 → (isO h2 a0 5) ∧ (isO h2 (mR h2 a0 0) 2) ∧ wX9_contains (mI h2 (mR h2 a0 0) 3) a1 h2 (fun r8 h7 => ((¬ r8 = 0 → (isO h7 a0 5) ∧ (isO h7 (mR h7 a0 0) 2) ∧ ∀ h12, h12 = uI h7 (mR h7 a0 0) 3 (mI h7 (mR h7 a0 0) 3 &&& ((1 <<< (a1 &&& 31)) ^^^ (-1))) → wJ6_bitCount_0f7a4 (mI h12 (mR h7 a0 0) 3) h12 (fun r14 h13 => K r14 h13)) ∧ (r8 = 0 → K (-3) h7)))) ∧ (r3 = 0 → K (-1) h2)))
def wX9_open (a0 : Nat) (a1 : Int32) (h : AH) (K : Int32 → AH → Prop) (T : String → AH → Prop) : Prop :=
  (isO h a0 0) ∧ (isO h (mR h a0 3) 1) ∧ wX2_keep (mR h a0 3) (mR h a0 0) h (fun h2 => (isO h2 a0 0) ∧ (isO h2 (mR h2 a0 0) 5) ∧ wX7_openBlock (mR h2 a0 0) a1 h2 (fun r6 h5 => (isO h5 a0 0) ∧ wX9_settle a0 r6 h5 (fun r8 h7 => K r8 h7) T))
def wX4_hasPoint (a0 : Nat) (a1 : Int32) (h : AH) (K : Int32 → AH → Prop) : Prop :=
  ((a1 < 0 → K 0 h) ∧ (¬ a1 < 0 → (isO h a0 2) ∧ ((mI h a0 1 ≤ a1 → K 0 h) ∧ (¬ mI h a0 1 ≤ a1 → K 1 h))))
def wX4_stemOf (a0 : Nat) (a1 : Int32) (h : AH) (K : Int32 → AH → Prop) : Prop :=
  (isO h a0 2) ∧ wX4_hasPoint a0 a1 h (fun r2 h1 => ((r2 = 0 → K (-1) h1) ∧ (¬ r2 = 0 → (isO h1 a0 2) ∧ (isA h1 (mR h1 a0 8) 0) ∧ (vp_in a1 (ln h1 (mR h1 a0 8))) ∧ K (mI h1 (mR h1 a0 8) a1.toNatClampNeg) h1)))
def wX8_isRouted (a0 : Nat) (h : AH) (K : Int32 → AH → Prop) : Prop :=
  (isO h a0 6) ∧ ((mI h a0 3 = 0 → K 0 h) ∧ (¬ mI h a0 3 = 0 → K 1 h))
def wX8_held (a0 : Nat) (h : AH) (K : Int32 → AH → Prop) : Prop :=
  (isO h a0 6) ∧ K (mI h a0 3 ||| (1 <<< (mI h a0 1 &&& 31))) h
def wX8_locks (a0 : Nat) (a1 : Int32) (h : AH) (K : Int32 → AH → Prop) : Prop :=
  (isO h a0 6) ∧ wX8_isRouted a0 h (fun r2 h1 => ((r2 = 0 → K 0 h1) ∧ (¬ r2 = 0 → (isO h1 a0 6) ∧ ((a1 = mI h1 a0 2 → K 0 h1) ∧ (¬ a1 = mI h1 a0 2 → wX8_held a0 h1 (fun r7 h6 => wX9_contains r7 a1 h6 (fun r9 h8 => ((r9 = 0 → K 0 h8) ∧ (¬ r9 = 0 → K 1 h8)))))))))
def wX7_lockerOf_L11 (K : Int32 → AH → Prop)  (x0 : Nat) (x2 : Int32) : Nat → Int32 → AH → Prop
  | 0 => fun _ _ => False
  | n + 1 => fun x3 h =>
  (isO h x0 5) ∧ ((mI h x0 3 ≤ x3 → K (-1) h) ∧ (¬ mI h x0 3 ≤ x3 → (isA h (mR h x0 1) 6) ∧ (vp_in x3 (ln h (mR h x0 1))) ∧ (isO h (mR h (mR h x0 1) x3.toNatClampNeg) 6) ∧ wX8_locks (mR h (mR h x0 1) x3.toNatClampNeg) x2 h (fun r9 h8 => ((r9 = 0 → wX7_lockerOf_L11 K  x0 x2 n x0 x2 (x3 + 1) h8) ∧ (¬ r9 = 0 → (isO h8 x0 5) ∧ (isA h8 (mR h8 x0 1) 6) ∧ (vp_in x3 (ln h8 (mR h8 x0 1))) ∧ (isO h8 (mR h8 (mR h8 x0 1) x3.toNatClampNeg) 6) ∧ K (mI h8 (mR h8 (mR h8 x0 1) x3.toNatClampNeg) 0) h8)))))
def wX7_lockerOf (a0 : Nat) (a1 : Int32) (h : AH) (K : Int32 → AH → Prop) : Prop :=
  (isO h a0 5) ∧ (isO h (mR h a0 0) 2) ∧ wX4_stemOf (mR h a0 0) a1 h (fun r3 h2 => (∃ n16, wX7_lockerOf_L11 K a0 r3 n16 0 h2))
def wX4_turn (a0 : Nat) (a1 : Int32) (h : AH) (K : AH → Prop) : Prop :=
  (isO h a0 2) ∧ wX4_hasPoint a0 a1 h (fun r2 h1 => ((r2 = 0 → K h1) ∧ (¬ r2 = 0 → (isO h1 a0 2) ∧ wX4_stemOf a0 a1 h1 (fun r6 h5 => (isO h5 a0 2) ∧ ∀ h8, h8 = uI h5 a0 4 (mI h1 a0 4 ^^^ (1 <<< (r6 &&& 31))) → K h8))))
def wX4_pointsLeft (a0 : Nat) (a1 : Int32) (h : AH) (K : Int32 → AH → Prop) : Prop :=
  (isO h a0 2) ∧ wX4_stemOf a0 a1 h (fun r3 h2 => wX9_contains (mI h a0 4) r3 h2 (fun r5 h4 => ((¬ r5 = 0 → K 0 h4) ∧ (r5 = 0 → K 1 h4))))
def wX7_movePoint (a0 : Nat) (a1 : Int32) (h : AH) (K : Int32 → AH → Prop) : Prop :=
  (isO h a0 5) ∧ (isO h (mR h a0 0) 2) ∧ wX4_hasPoint (mR h a0 0) a1 h (fun r3 h2 => ((¬ r3 = 0 → (isO h2 a0 5) ∧ wX7_lockerOf a0 a1 h2 (fun r6 h5 => ((r6 = (-1) → (isO h5 a0 5) ∧ (isO h5 (mR h5 a0 0) 2) ∧ wX4_turn (mR h5 a0 0) a1 h5 (fun h9 => (isO h9 a0 5) ∧ (isO h9 (mR h9 a0 0) 2) ∧ wX4_pointsLeft (mR h9 a0 0) a1 h9 (fun r13 h12 => ((r13 = 0 → K 0 h12) ∧ (¬ r13 = 0 → K 1 h12))))) ∧ (¬ r6 = (-1) → K (-3) h5)))) ∧ (r3 = 0 → K (-1) h2)))
def wX9_throwPoint (a0 : Nat) (a1 : Int32) (h : AH) (K : Int32 → AH → Prop) (T : String → AH → Prop) : Prop :=
  (isO h a0 0) ∧ (isO h (mR h a0 3) 1) ∧ wX2_keep (mR h a0 3) (mR h a0 0) h (fun h2 => (isO h2 a0 0) ∧ (isO h2 (mR h2 a0 0) 5) ∧ wX7_movePoint (mR h2 a0 0) a1 h2 (fun r6 h5 => (isO h5 a0 0) ∧ wX9_settle a0 r6 h5 (fun r8 h7 => ((¬ r8 = 1 → K 0 h7) ∧ (r8 = 1 → K 1 h7))) T))
def wX7_held_L4 (K : Int32 → AH → Prop)  (x0 : Nat) : Nat → Int32 → Int32 → AH → Prop
  | 0 => fun _ _ _ => False
  | n + 1 => fun x1 x2 h =>
  (isO h x0 5) ∧ ((mI h x0 3 ≤ x2 → K x1 h) ∧ (¬ mI h x0 3 ≤ x2 → (isA h (mR h x0 1) 6) ∧ (vp_in x2 (ln h (mR h x0 1))) ∧ (isO h (mR h (mR h x0 1) x2.toNatClampNeg) 6) ∧ wX8_held (mR h (mR h x0 1) x2.toNatClampNeg) h (fun r6 h5 => wX7_held_L4 K  x0 n x0 (x1 ||| r6) (x2 + 1) h5)))
def wX7_held (a0 : Nat) (h : AH) (K : Int32 → AH → Prop) : Prop :=
  (∃ n8, wX7_held_L4 K a0 n8 0 0 h)
def wX8_begin (a0 : Nat) (a1 : Int32) (a2 : Int32) (a3 : Int32) (h : AH) (K : AH → Prop) : Prop :=
  (isO h a0 6) ∧ ∀ h2, h2 = uI h a0 0 a1 → ∀ h3, h3 = uI h2 a0 1 a2 → ∀ h4, h4 = uI h3 a0 2 a3 → ∀ h5, h5 = uI h4 a0 3 0 → ∀ h6, h6 = uI h5 a0 4 0 → ∀ h7, h7 = uI h6 a0 5 0 → K h7
def wX7_joinQueue (a0 : Nat) (a1 : Int32) (h : AH) (K : AH → Prop) : Prop :=
  (isO h a0 5) ∧ ((8 ≤ mI h a0 4 → K h) ∧ (¬ 8 ≤ mI h a0 4 → (isA h (mR h a0 2) 0) ∧ (nZ ≤ (mR h a0 2)) ∧ (vp_in (mI h a0 4) (ln h (mR h a0 2))) ∧ ∀ h6, h6 = uI h (mR h a0 2) (mI h a0 4).toNatClampNeg a1 → ∀ h7, h7 = uI h6 a0 4 (mI h6 a0 4 + 1) → K h7))
def wX7_bringTrain (a0 : Nat) (a1 : Int32) (a2 : Int32) (h : AH) (K : Int32 → AH → Prop) : Prop :=
  (isO h a0 5) ∧ (isO h (mR h a0 0) 2) ∧ wX4_has (mR h a0 0) a1 h (fun r3 h2 => ((r3 = 0 → K (-1) h2) ∧ (¬ r3 = 0 → (isO h2 a0 5) ∧ (isO h2 (mR h2 a0 0) 2) ∧ wX4_has (mR h2 a0 0) a2 h2 (fun r7 h6 => ((¬ r7 = 0 → ((¬ a1 = a2 → (isO h6 a0 5) ∧ ((8 ≤ mI h6 a0 3 → K (-3) h6) ∧ (¬ 8 ≤ mI h6 a0 3 → (isO h6 (mR h6 a0 0) 2) ∧ wX7_held a0 h6 (fun r14 h13 => wX9_contains (mI h6 (mR h6 a0 0) 3 ||| r14) a1 h13 (fun r16 h15 => ((r16 = 0 → (isO h15 a0 5) ∧ (isA h15 (mR h15 a0 1) 6) ∧ (vp_in (mI h15 a0 3) (ln h15 (mR h15 a0 1))) ∧ (isO h15 (mR h15 (mR h15 a0 1) (mI h15 a0 3).toNatClampNeg) 6) ∧ wX8_begin (mR h15 (mR h15 a0 1) (mI h15 a0 3).toNatClampNeg) (mI h15 a0 5) a1 a2 h15 (fun h21 => (isO h21 a0 5) ∧ ∀ h24, h24 = uI h21 a0 3 (mI h21 a0 3 + 1) → ∀ h25, h25 = uI h24 a0 5 (mI h24 a0 5 + 1) → wX7_joinQueue a0 (mI h15 a0 5) h25 (fun h26 => K (mI h15 a0 5) h26))) ∧ (¬ r16 = 0 → K (-3) h15))))))) ∧ (a1 = a2 → K (-2) h6))) ∧ (r7 = 0 → K (-1) h6))))))
def wX9_addTrain (a0 : Nat) (a1 : Int32) (a2 : Int32) (h : AH) (K : Int32 → AH → Prop) (T : String → AH → Prop) : Prop :=
  (isO h a0 0) ∧ (isO h (mR h a0 3) 1) ∧ wX2_keep (mR h a0 3) (mR h a0 0) h (fun h2 => (isO h2 a0 0) ∧ (isO h2 (mR h2 a0 0) 5) ∧ wX7_bringTrain (mR h2 a0 0) a1 a2 h2 (fun r6 h5 => (isO h5 a0 0) ∧ wX9_settle a0 r6 h5 (fun r8 h7 => K r8 h7) T))
def wX7_find_L2 (K : Nat → AH → Prop)  (x0 : Nat) (x1 : Int32) : Nat → Int32 → AH → Prop
  | 0 => fun _ _ => False
  | n + 1 => fun x2 h =>
  (isO h x0 5) ∧ ((mI h x0 3 ≤ x2 → K 0 h) ∧ (¬ mI h x0 3 ≤ x2 → (isA h (mR h x0 1) 6) ∧ (vp_in x2 (ln h (mR h x0 1))) ∧ (isO h (mR h (mR h x0 1) x2.toNatClampNeg) 6) ∧ ((¬ mI h (mR h (mR h x0 1) x2.toNatClampNeg) 0 = x1 → wX7_find_L2 K  x0 x1 n x0 x1 (x2 + 1) h) ∧ (mI h (mR h (mR h x0 1) x2.toNatClampNeg) 0 = x1 → K (mR h (mR h x0 1) x2.toNatClampNeg) h))))
def wX7_find (a0 : Nat) (a1 : Int32) (h : AH) (K : Nat → AH → Prop) : Prop :=
  (∃ n7, wX7_find_L2 K a0 a1 n7 0 h)
def wX4_routeBlocks (a0 : Nat) (a1 : Int32) (a2 : Int32) (h : AH) (K : Int32 → AH → Prop) : Prop :=
  (isO h a0 2) ∧ wX4_has a0 a1 h (fun r2 h1 => ((r2 = 0 → K 0 h1) ∧ (¬ r2 = 0 → (isO h1 a0 2) ∧ wX4_has a0 a2 h1 (fun r5 h4 => ((r5 = 0 → K 0 h4) ∧ (¬ r5 = 0 → (isO h4 a0 2) ∧ (isA h4 (mR h4 a0 10) 8) ∧ (nZ ≤ (mR h4 a0 10)) ∧ (vp_in a2 (ln h4 (mR h4 a0 10))) ∧ (isA h4 (mR h4 (mR h4 a0 10) a2.toNatClampNeg) 0) ∧ (vp_in a1 (ln h4 (mR h4 (mR h4 a0 10) a2.toNatClampNeg))) ∧ K (mI h4 (mR h4 (mR h4 a0 10) a2.toNatClampNeg) a1.toNatClampNeg) h4))))))
def wX7_canSet (a0 : Nat) (a1 : Nat) (h : AH) (K : Int32 → AH → Prop) : Prop :=
  (isO h a0 5) ∧ (isO h a1 6) ∧ (isO h (mR h a0 0) 2) ∧ wX4_routeBlocks (mR h a0 0) (mI h a1 1) (mI h a1 2) h (fun r4 h3 => (isO h3 a1 6) ∧ wX8_isRouted a1 h3 (fun r6 h5 => ((¬ r6 = 0 → K 0 h5) ∧ (r6 = 0 → ((r4 = 0 → K 0 h5) ∧ (¬ r4 = 0 → (isO h5 a0 5) ∧ (isO h5 (mR h5 a0 0) 2) ∧ wX7_held a0 h5 (fun r12 h11 => ((¬ (r4 &&& (mI h5 (mR h5 a0 0) 3 ||| r12)) = 0 → K 0 h11) ∧ ((r4 &&& (mI h5 (mR h5 a0 0) 3 ||| r12)) = 0 → K 1 h11)))))))))
def wX7_leaveQueue_L4 (K : AH → Prop)  (x0 : Nat) (x1 : Int32) : Nat → Int32 → Int32 → AH → Prop
  | 0 => fun _ _ _ => False
  | n + 1 => fun x2 x3 h =>
  (isO h x0 5) ∧ ((mI h x0 4 ≤ x3 → ∀ h3, h3 = uI h x0 4 x2 → K h3) ∧ (¬ mI h x0 4 ≤ x3 → (isA h (mR h x0 2) 0) ∧ (vp_in x3 (ln h (mR h x0 2))) ∧ ((mI h (mR h x0 2) x3.toNatClampNeg = x1 → wX7_leaveQueue_L4 K  x0 x1 n x0 x1 x2 (x3 + 1) h) ∧ (¬ mI h (mR h x0 2) x3.toNatClampNeg = x1 → (nZ ≤ (mR h x0 2)) ∧ (vp_in x2 (ln h (mR h x0 2))) ∧ ∀ h9, h9 = uI h (mR h x0 2) x2.toNatClampNeg (mI h (mR h x0 2) x3.toNatClampNeg) → wX7_leaveQueue_L4 K  x0 x1 n x0 x1 (x2 + 1) (x3 + 1) h9))))
def wX7_leaveQueue (a0 : Nat) (a1 : Int32) (h : AH) (K : AH → Prop) : Prop :=
  (∃ n10, wX7_leaveQueue_L4 K a0 a1 n10 0 0 h)
def wX4_turnForRoute_L5 (K : AH → Prop)  (x0 : Nat) (x2 : Int32) : Nat → Int32 → Int32 → AH → Prop
  | 0 => fun _ _ _ => False
  | n + 1 => fun x3 x4 h =>
  ((12 ≤ x4 → K h) ∧ (¬ 12 ≤ x4 → (isO h x0 2) ∧ wX4_has x0 x3 h (fun r3 h2 => ((r3 = 0 → K h2) ∧ (¬ r3 = 0 → (isO h2 x0 2) ∧ wX4_has x0 x2 h2 (fun r6 h5 => ((r6 = 0 → K h5) ∧ (¬ r6 = 0 → ((x3 = x2 → K h5) ∧ (¬ x3 = x2 → (isO h5 x0 2) ∧ (isA h5 (mR h5 x0 9) 8) ∧ (nZ ≤ (mR h5 x0 9)) ∧ (vp_in x2 (ln h5 (mR h5 x0 9))) ∧ (isA h5 (mR h5 (mR h5 x0 9) x2.toNatClampNeg) 0) ∧ (vp_in x3 (ln h5 (mR h5 (mR h5 x0 9) x2.toNatClampNeg))) ∧ ∀ v15 : Int32, v15 = mI h5 (mR h5 (mR h5 x0 9) x2.toNatClampNeg) x3.toNatClampNeg → (isA h5 (mR h5 x0 6) 0) ∧ (vp_in x3 (ln h5 (mR h5 x0 6))) ∧ ((¬ mI h5 (mR h5 x0 6) x3.toNatClampNeg = v15 → (isA h5 (mR h5 x0 7) 0) ∧ (vp_in x3 (ln h5 (mR h5 x0 7))) ∧ ((¬ mI h5 (mR h5 x0 7) x3.toNatClampNeg = v15 → wX4_turnForRoute_L5 K  x0 x2 n x0 x2 v15 (x4 + 1) h5) ∧ (mI h5 (mR h5 x0 7) x3.toNatClampNeg = v15 → ∀ h23, h23 = uI h5 x0 4 (mI h5 x0 4 ||| (1 <<< (x3 &&& 31))) → wX4_turnForRoute_L5 K  x0 x2 n x0 x2 v15 (x4 + 1) h23))) ∧ (mI h5 (mR h5 x0 6) x3.toNatClampNeg = v15 → ∀ h24, h24 = uI h5 x0 4 (mI h5 x0 4 &&& ((1 <<< (x3 &&& 31)) ^^^ (-1))) → wX4_turnForRoute_L5 K  x0 x2 n x0 x2 v15 (x4 + 1) h24))))))))))))
def wX4_turnForRoute (a0 : Nat) (a1 : Int32) (a2 : Int32) (h : AH) (K : AH → Prop) : Prop :=
  (∃ n27, wX4_turnForRoute_L5 K a0 a2 n27 a1 0 h)
def wX4_exitOf (a0 : Nat) (a1 : Int32) (h : AH) (K : Int32 → AH → Prop) : Prop :=
  (isO h a0 2) ∧ wX4_has a0 a1 h (fun r2 h1 => ((¬ r2 = 0 → (isO h1 a0 2) ∧ wX9_contains (mI h1 a0 4) a1 h1 (fun r6 h5 => ((r6 = 0 → (isO h5 a0 2) ∧ (isA h5 (mR h5 a0 6) 0) ∧ (vp_in a1 (ln h5 (mR h5 a0 6))) ∧ K (mI h5 (mR h5 a0 6) a1.toNatClampNeg) h5) ∧ (¬ r6 = 0 → (isO h5 a0 2) ∧ (isA h5 (mR h5 a0 7) 0) ∧ (vp_in a1 (ln h5 (mR h5 a0 7))) ∧ K (mI h5 (mR h5 a0 7) a1.toNatClampNeg) h5)))) ∧ (r2 = 0 → K (-1) h1)))
def wX4_lengthOf (a0 : Nat) (a1 : Int32) (h : AH) (K : Int32 → AH → Prop) : Prop :=
  (isO h a0 2) ∧ wX4_has a0 a1 h (fun r2 h1 => ((r2 = 0 → K 0 h1) ∧ (¬ r2 = 0 → (isO h1 a0 2) ∧ (isA h1 (mR h1 a0 5) 0) ∧ (vp_in a1 (ln h1 (mR h1 a0 5))) ∧ K (mI h1 (mR h1 a0 5) a1.toNatClampNeg) h1)))
def wX7_reserveRoute (a0 : Nat) (a1 : Nat) (h : AH) (K : AH → Prop) : Prop :=
  (isO h a0 5) ∧ (isO h a1 6) ∧ (isO h (mR h a0 0) 2) ∧ wX4_turnForRoute (mR h a0 0) (mI h a1 1) (mI h a1 2) h (fun h3 => (isO h3 a0 5) ∧ (isO h3 a1 6) ∧ (isO h3 (mR h3 a0 0) 2) ∧ wX4_routeBlocks (mR h3 a0 0) (mI h3 a1 1) (mI h3 a1 2) h3 (fun r8 h7 => (isO h7 a1 6) ∧ ∀ h10, h10 = uI h7 a1 3 r8 → (isO h7 a0 5) ∧ (isO h7 (mR h7 a0 0) 2) ∧ wX4_exitOf (mR h7 a0 0) (mI h10 a1 1) h10 (fun r13 h12 => (isO h12 (mR h7 a0 0) 2) ∧ wX4_lengthOf (mR h7 a0 0) r13 h12 (fun r15 h14 => (isO h14 a1 6) ∧ ∀ h17, h17 = uI h14 a1 4 (mI h10 a0 7 + r15) → K h17))))
def wX4_totalLength_L4 (K : Int32 → AH → Prop)  (x0 : Nat) (x1 : Int32) : Nat → Int32 → Int32 → AH → Prop
  | 0 => fun _ _ _ => False
  | n + 1 => fun x2 x3 h =>
  (isO h x0 2) ∧ ((mI h x0 0 ≤ x3 → K x2 h) ∧ (¬ mI h x0 0 ≤ x3 → wX9_contains x1 x3 h (fun r4 h3 => ((r4 = 0 → wX4_totalLength_L4 K  x0 x1 n x0 x1 x2 (x3 + 1) h3) ∧ (¬ r4 = 0 → (isO h3 x0 2) ∧ (isA h3 (mR h3 x0 5) 0) ∧ (vp_in x3 (ln h3 (mR h3 x0 5))) ∧ ∀ v9 : Int32, v9 = (x2 + mI h3 (mR h3 x0 5) x3.toNatClampNeg) → wX4_totalLength_L4 K  x0 x1 n x0 x1 v9 (x3 + 1) h3)))))
def wX4_totalLength (a0 : Nat) (a1 : Int32) (h : AH) (K : Int32 → AH → Prop) : Prop :=
  (∃ n11, wX4_totalLength_L4 K a0 a1 n11 0 0 h)
def wX7_grantRoute (a0 : Nat) (a1 : Int32) (h : AH) (K : Int32 → AH → Prop) : Prop :=
  (isO h a0 5) ∧ wX7_find a0 a1 h (fun r2 h1 => ((r2 = 0 → K (-4) h1) ∧ (¬ r2 = 0 → (isO h1 r2 6) ∧ wX8_isRouted r2 h1 (fun r5 h4 => ((r5 = 0 → (isO h4 a0 5) ∧ wX7_canSet a0 r2 h4 (fun r8 h7 => ((¬ r8 = 0 → (isO h7 a0 5) ∧ wX7_leaveQueue a0 a1 h7 (fun h10 => (isO h10 a0 5) ∧ wX7_reserveRoute a0 r2 h10 (fun h12 => (isO h12 a0 5) ∧ (isO h12 r2 6) ∧ (isO h12 (mR h12 a0 0) 2) ∧ wX4_totalLength (mR h12 a0 0) (mI h12 r2 3) h12 (fun r17 h16 => K r17 h16)))) ∧ (r8 = 0 → K (-5) h7)))) ∧ (¬ r5 = 0 → K (-3) h4))))))
def wX4_nextOnRoute (a0 : Nat) (a1 : Int32) (a2 : Int32) (h : AH) (K : Int32 → AH → Prop) : Prop :=
  (isO h a0 2) ∧ wX4_has a0 a1 h (fun r2 h1 => ((r2 = 0 → K (-1) h1) ∧ (¬ r2 = 0 → (isO h1 a0 2) ∧ wX4_has a0 a2 h1 (fun r5 h4 => ((r5 = 0 → K (-1) h4) ∧ (¬ r5 = 0 → (isO h4 a0 2) ∧ (isA h4 (mR h4 a0 9) 8) ∧ (nZ ≤ (mR h4 a0 9)) ∧ (vp_in a2 (ln h4 (mR h4 a0 9))) ∧ (isA h4 (mR h4 (mR h4 a0 9) a2.toNatClampNeg) 0) ∧ (vp_in a1 (ln h4 (mR h4 (mR h4 a0 9) a2.toNatClampNeg))) ∧ K (mI h4 (mR h4 (mR h4 a0 9) a2.toNatClampNeg) a1.toNatClampNeg) h4))))))
def wX7_firstNotFree_L32 (K : Int32 → AH → Prop)  (x0 : Nat) (x1 : Nat) (x2 : Int32) : Nat → Int32 → Int32 → AH → Prop
  | 0 => fun _ _ _ => False
  | n + 1 => fun x3 x4 h =>
  ((12 ≤ x4 → K (-1) h) ∧ (¬ 12 ≤ x4 → ((x3 = (-1) → K (-1) h) ∧ (¬ x3 = (-1) → wX9_contains x2 x3 h (fun r12 h11 => ((r12 = 0 → (isO h11 x0 5) ∧ (isO h11 x1 6) ∧ (isO h11 (mR h11 x0 0) 2) ∧ wX4_nextOnRoute (mR h11 x0 0) x3 (mI h11 x1 2) h11 (fun r17 h16 => wX7_firstNotFree_L32 K  x0 x1 x2 n x0 x1 x2 r17 (x4 + 1) h16)) ∧ (¬ r12 = 0 → K x3 h11)))))))
def wX7_firstNotFree (a0 : Nat) (a1 : Nat) (h : AH) (K : Int32 → AH → Prop) : Prop :=
  (isO h a0 5) ∧ (isO h (mR h a0 0) 2) ∧ wX7_held a0 h (fun r4 h3 => (isO h3 a0 5) ∧ (isO h3 a1 6) ∧ (isO h3 (mR h3 a0 0) 2) ∧ wX4_nextOnRoute (mR h3 a0 0) (mI h3 a1 1) (mI h3 a1 2) h3 (fun r8 h7 => (∃ n19, wX7_firstNotFree_L32 K a0 a1 (mI h (mR h a0 0) 3 ||| r4) n19 r8 0 h7)))
def wX7_stateOf (a0 : Nat) (a1 : Int32) (h : AH) (K : Int32 → AH → Prop) : Prop :=
  (isO h a0 5) ∧ (isO h (mR h a0 0) 2) ∧ wX9_contains (mI h (mR h a0 0) 3) a1 h (fun r4 h3 => ((r4 = 0 → (isO h3 a0 5) ∧ wX7_isReserved a0 a1 h3 (fun r7 h6 => ((r7 = 0 → (isO h6 a0 5) ∧ wX7_held a0 h6 (fun r10 h9 => wX9_contains r10 a1 h9 (fun r12 h11 => ((r12 = 0 → K 102 h11) ∧ (¬ r12 = 0 → K 111 h11))))) ∧ (¬ r7 = 0 → K 114 h6)))) ∧ (¬ r4 = 0 → K 115 h3)))
def wX9_recordRefusal_J41 (K : AH → Prop)  (y0 : Nat) (y1 : Int32) (h : AH) : Prop :=
  (isO h y0 0) ∧ (narrow .char (.int y1) = .int y1) ∧ (fits .char (.int y1) = true) ∧ ∀ h11, h11 = uI h y0 8 y1 → K h11
def wX9_recordRefusal (a0 : Nat) (a1 : Nat) (h : AH) (K : AH → Prop) : Prop :=
  ((a1 = 0 → K h) ∧ (¬ a1 = 0 → (isO h a0 0) ∧ (isO h (mR h a0 0) 5) ∧ wX7_firstNotFree (mR h a0 0) a1 h (fun r4 h3 => (isO h3 a0 0) ∧ ∀ h6, h6 = uI h3 a0 9 r4 → ((¬ mI h6 a0 9 = (-1) → (isO h3 (mR h3 a0 0) 5) ∧ wX7_stateOf (mR h3 a0 0) (mI h6 a0 9) h6 (fun r9 h8 => (wX9_recordRefusal_J41 K a0 r9 h8))) ∧ (mI h6 a0 9 = (-1) → (wX9_recordRefusal_J41 K a0 110 h6))))))
def wX9_grantOrRecord (a0 : Nat) (a1 : Int32) (h : AH) (K : Int32 → AH → Prop) : Prop :=
  (isO h a0 0) ∧ (isO h (mR h a0 0) 5) ∧ wX7_grantRoute (mR h a0 0) a1 h (fun r3 h2 => ((¬ r3 = (-5) → K r3 h2) ∧ (r3 = (-5) → (isO h2 a0 0) ∧ (isO h2 (mR h2 a0 0) 5) ∧ wX7_find (mR h2 a0 0) a1 h2 (fun r7 h6 => (isO h6 a0 0) ∧ wX9_recordRefusal a0 r7 h6 (fun h8 => K r3 h8)))))
def wX9_setRoute (a0 : Nat) (a1 : Int32) (h : AH) (K : Int32 → AH → Prop) (T : String → AH → Prop) : Prop :=
  (isO h a0 0) ∧ (isO h (mR h a0 3) 1) ∧ wX2_keep (mR h a0 3) (mR h a0 0) h (fun h2 => (isO h2 a0 0) ∧ wX9_grantOrRecord a0 a1 h2 (fun r5 h4 => (isO h4 a0 0) ∧ wX9_settle a0 r5 h4 (fun r7 h6 => K r7 h6) T))
def wX7_withdrawRoute (a0 : Nat) (a1 : Int32) (h : AH) (K : Int32 → AH → Prop) : Prop :=
  (isO h a0 5) ∧ wX7_find a0 a1 h (fun r2 h1 => ((r2 = 0 → K (-4) h1) ∧ (¬ r2 = 0 → (isO h1 r2 6) ∧ wX8_isRouted r2 h1 (fun r5 h4 => ((¬ r5 = 0 → (isO h4 r2 6) ∧ ∀ h8, h8 = uI h4 r2 3 0 → (isO h4 a0 5) ∧ wX7_joinQueue a0 a1 h8 (fun h9 => (isO h9 a0 5) ∧ K (mI h9 a0 4) h9)) ∧ (r5 = 0 → K (-3) h4))))))
def wX9_releaseRoute (a0 : Nat) (a1 : Int32) (h : AH) (K : Int32 → AH → Prop) (T : String → AH → Prop) : Prop :=
  (isO h a0 0) ∧ (isO h (mR h a0 3) 1) ∧ wX2_keep (mR h a0 3) (mR h a0 0) h (fun h2 => (isO h2 a0 0) ∧ (isO h2 (mR h2 a0 0) 5) ∧ wX7_withdrawRoute (mR h2 a0 0) a1 h2 (fun r6 h5 => (isO h5 a0 0) ∧ wX9_settle a0 r6 h5 (fun r8 h7 => K r8 h7) T))
def wX7_enterNext (a0 : Nat) (a1 : Nat) (h : AH) (K : AH → Prop) : Prop :=
  (isO h a0 5) ∧ (isO h a1 6) ∧ (isO h (mR h a0 0) 2) ∧ wX4_exitOf (mR h a0 0) (mI h a1 1) h (fun r4 h3 => (isO h3 a1 6) ∧ ∀ h6, h6 = uI h3 a1 1 r4 → ∀ h7, h7 = uI h6 a1 3 (mI h6 a1 3 &&& ((1 <<< (r4 &&& 31)) ^^^ (-1))) → (isO h3 a0 5) ∧ (isO h3 (mR h3 a0 0) 2) ∧ wX4_exitOf (mR h3 a0 0) r4 h7 (fun r10 h9 => (isO h9 (mR h3 a0 0) 2) ∧ wX4_lengthOf (mR h3 a0 0) r10 h9 (fun r12 h11 => (isO h11 a1 6) ∧ ∀ h14, h14 = uI h11 a1 4 (mI h7 a0 7 + r12) → K h14)))
def wX7_removeArrived_L4 (K : AH → Prop)  (x0 : Nat) : Nat → Int32 → Int32 → AH → Prop
  | 0 => fun _ _ _ => False
  | n + 1 => fun x1 x2 h =>
  (isO h x0 5) ∧ ((mI h x0 3 ≤ x2 → ∀ h3, h3 = uI h x0 3 x1 → K h3) ∧ (¬ mI h x0 3 ≤ x2 → (isA h (mR h x0 1) 6) ∧ (vp_in x2 (ln h (mR h x0 1))) ∧ (isO h (mR h (mR h x0 1) x2.toNatClampNeg) 6) ∧ ((¬ mI h (mR h (mR h x0 1) x2.toNatClampNeg) 1 = mI h (mR h (mR h x0 1) x2.toNatClampNeg) 2 → (vp_in x1 (ln h (mR h x0 1))) ∧ (isO h (mR h (mR h x0 1) x1.toNatClampNeg) 6) ∧ (nZ ≤ (mR h x0 1)) ∧ ∀ h11, h11 = uR h (mR h x0 1) x2.toNatClampNeg (mR h (mR h x0 1) x1.toNatClampNeg) → (isA h (mR h11 x0 1) 6) ∧ (nZ ≤ (mR h11 x0 1)) ∧ (vp_in x1 (ln h (mR h11 x0 1))) ∧ ∀ h15, h15 = uR h11 (mR h11 x0 1) x1.toNatClampNeg (mR h (mR h x0 1) x2.toNatClampNeg) → wX7_removeArrived_L4 K  x0 n x0 (x1 + 1) (x2 + 1) h15) ∧ (mI h (mR h (mR h x0 1) x2.toNatClampNeg) 1 = mI h (mR h (mR h x0 1) x2.toNatClampNeg) 2 → ∀ h16, h16 = uI h x0 6 (mI h x0 6 + 1) → wX7_removeArrived_L4 K  x0 n x0 x1 (x2 + 1) h16))))
def wX7_removeArrived (a0 : Nat) (h : AH) (K : AH → Prop) : Prop :=
  (∃ n17, wX7_removeArrived_L4 K a0 n17 0 0 h)
def wX7_considerQueue_J43 (K : AH → Prop) (c4 : Nat → Int32 → Int32 → AH → Prop) (x0 : Nat) (x1 : Int32) (x2 : Int32) (x3 : Nat) (h : AH) : Prop :=
  ((x3 = 0 → c4 x0 x1 (x2 + 1) h) ∧ (¬ x3 = 0 → (isO h x3 6) ∧ ∀ h11, h11 = uI h x3 5 (mI h x3 5 + 1) → (isO h x0 5) ∧ ∀ h13, h13 = uL h11 x0 8 (mL h11 x0 8 + 1) → (isA h (mR h x0 2) 0) ∧ (nZ ≤ (mR h x0 2)) ∧ (vp_in x1 (ln h (mR h x0 2))) ∧ ∀ h17, h17 = uI h13 (mR h x0 2) x1.toNatClampNeg (mI h13 x3 0) → c4 x0 (x1 + 1) (x2 + 1) h17))
def wX7_considerQueue_L4 (K : AH → Prop)  (x0 : Nat) : Nat → Int32 → Int32 → AH → Prop
  | 0 => fun _ _ _ => False
  | n + 1 => fun x1 x2 h =>
  (isO h x0 5) ∧ ((mI h x0 4 ≤ x2 → ∀ h3, h3 = uI h x0 4 x1 → K h3) ∧ (¬ mI h x0 4 ≤ x2 → (isA h (mR h x0 2) 0) ∧ (vp_in x2 (ln h (mR h x0 2))) ∧ wX7_find x0 (mI h (mR h x0 2) x2.toNatClampNeg) h (fun r7 h6 => ((r7 = 0 → (wX7_considerQueue_J43 K (wX7_considerQueue_L4 K  x0 n) x0 x1 x2 r7 h6)) ∧ (¬ r7 = 0 → (isO h6 x0 5) ∧ wX7_canSet x0 r7 h6 (fun r19 h18 => ((r19 = 0 → (wX7_considerQueue_J43 K (wX7_considerQueue_L4 K  x0 n) x0 x1 x2 r7 h18)) ∧ (¬ r19 = 0 → (isO h18 x0 5) ∧ wX7_reserveRoute x0 r7 h18 (fun h21 => wX7_considerQueue_L4 K  x0 n x0 x1 (x2 + 1) h21)))))))))
def wX7_considerQueue (a0 : Nat) (h : AH) (K : AH → Prop) : Prop :=
  (∃ n25, wX7_considerQueue_L4 K a0 n25 0 0 h)
def wX7_passMinute_L12 (K : AH → Prop)  (x0 : Nat) : Nat → Int32 → AH → Prop
  | 0 => fun _ _ => False
  | n + 1 => fun x1 h =>
  (isO h x0 5) ∧ ((mI h x0 3 ≤ x1 → wX7_removeArrived x0 h (fun h5 => (isO h5 x0 5) ∧ wX7_considerQueue x0 h5 (fun h7 => K h7))) ∧ (¬ mI h x0 3 ≤ x1 → (isA h (mR h x0 1) 6) ∧ (vp_in x1 (ln h (mR h x0 1))) ∧ (isO h (mR h (mR h x0 1) x1.toNatClampNeg) 6) ∧ wX8_isRouted (mR h (mR h x0 1) x1.toNatClampNeg) h (fun r13 h12 => ((r13 = 0 → wX7_passMinute_L12 K  x0 n x0 (x1 + 1) h12) ∧ (¬ r13 = 0 → (isO h12 x0 5) ∧ (isA h12 (mR h12 x0 1) 6) ∧ (vp_in x1 (ln h12 (mR h12 x0 1))) ∧ (isO h12 (mR h12 (mR h12 x0 1) x1.toNatClampNeg) 6) ∧ ((¬ mI h12 (mR h12 (mR h12 x0 1) x1.toNatClampNeg) 4 = mI h12 x0 7 → wX7_passMinute_L12 K  x0 n x0 (x1 + 1) h12) ∧ (mI h12 (mR h12 (mR h12 x0 1) x1.toNatClampNeg) 4 = mI h12 x0 7 → wX7_enterNext x0 (mR h12 (mR h12 x0 1) x1.toNatClampNeg) h12 (fun h20 => wX7_passMinute_L12 K  x0 n x0 (x1 + 1) h20))))))))
def wX7_passMinute (a0 : Nat) (h : AH) (K : AH → Prop) : Prop :=
  (isO h a0 5) ∧ ∀ h2, h2 = uI h a0 7 (mI h a0 7 + 1) → (∃ n23, wX7_passMinute_L12 K a0 n23 0 h2)
def wX7_letPass_L22 (K : Int32 → AH → Prop)  (x0 : Nat) (x1 : Int32) (x2 : Int32) : Nat → Int32 → AH → Prop
  | 0 => fun _ _ => False
  | n + 1 => fun x3 h =>
  ((x1 ≤ x3 → (isO h x0 5) ∧ K (mI h x0 6 - x2) h) ∧ (¬ x1 ≤ x3 → (isO h x0 5) ∧ wX7_passMinute x0 h (fun h6 => wX7_letPass_L22 K  x0 x1 x2 n x0 x1 x2 (x3 + 1) h6)))
def wX7_letPass (a0 : Nat) (a1 : Int32) (h : AH) (K : Int32 → AH → Prop) : Prop :=
  ((a1 < 1 → K (-2) h) ∧ (¬ a1 < 1 → ((a1 ≤ 240 → (isO h a0 5) ∧ (∃ n9, wX7_letPass_L22 K a0 a1 (mI h a0 6) n9 0 h)) ∧ (¬ a1 ≤ 240 → K (-2) h))))
def wX9_pass (a0 : Nat) (a1 : Int32) (h : AH) (K : Int32 → AH → Prop) (T : String → AH → Prop) : Prop :=
  (isO h a0 0) ∧ (isO h (mR h a0 3) 1) ∧ wX2_keep (mR h a0 3) (mR h a0 0) h (fun h2 => (isO h2 a0 0) ∧ (isO h2 (mR h2 a0 0) 5) ∧ wX7_letPass (mR h2 a0 0) a1 h2 (fun r6 h5 => (isO h5 a0 0) ∧ wX9_settle a0 r6 h5 (fun r8 h7 => K r8 h7) T))
def wX9_blocks (a0 : Nat) (h : AH) (K : Int32 → AH → Prop) : Prop :=
  (isO h a0 0) ∧ (isO h (mR h a0 0) 5) ∧ (isO h (mR h (mR h a0 0) 0) 2) ∧ K (mI h (mR h (mR h a0 0) 0) 0) h
def wX9_checkBlock (a0 : Nat) (a1 : Int32) (h : AH) (K : AH → Prop) (T : String → AH → Prop) : Prop :=
  (isO h a0 0) ∧ (isO h (mR h a0 0) 5) ∧ (isO h (mR h (mR h a0 0) 0) 2) ∧ wX4_has (mR h (mR h a0 0) 0) a1 h (fun r4 h3 => ((¬ r4 = 0 → K h3) ∧ (r4 = 0 → T "java/lang/IndexOutOfBoundsException" h3)))
def wX9_blockLength (a0 : Nat) (a1 : Int32) (h : AH) (K : Int32 → AH → Prop) (T : String → AH → Prop) : Prop :=
  (isO h a0 0) ∧ wX9_checkBlock a0 a1 h (fun h1 => (isO h1 a0 0) ∧ (isO h1 (mR h1 a0 0) 5) ∧ (isO h1 (mR h1 (mR h1 a0 0) 0) 2) ∧ wX4_lengthOf (mR h1 (mR h1 a0 0) 0) a1 h1 (fun r6 h5 => K r6 h5)) T
def wX9_blockState (a0 : Nat) (a1 : Int32) (h : AH) (K : Int32 → AH → Prop) (T : String → AH → Prop) : Prop :=
  (isO h a0 0) ∧ wX9_checkBlock a0 a1 h (fun h1 => (isO h1 a0 0) ∧ (isO h1 (mR h1 a0 0) 5) ∧ wX7_stateOf (mR h1 a0 0) a1 h1 (fun r5 h4 => (narrow .char (.int r5) = .int r5) ∧ K r5 h4)) T
def wX7_holderOf_L2 (K : Int32 → AH → Prop)  (x0 : Nat) (x1 : Int32) : Nat → Int32 → AH → Prop
  | 0 => fun _ _ => False
  | n + 1 => fun x2 h =>
  (isO h x0 5) ∧ ((mI h x0 3 ≤ x2 → K (-1) h) ∧ (¬ mI h x0 3 ≤ x2 → (isA h (mR h x0 1) 6) ∧ (vp_in x2 (ln h (mR h x0 1))) ∧ (isO h (mR h (mR h x0 1) x2.toNatClampNeg) 6) ∧ wX8_held (mR h (mR h x0 1) x2.toNatClampNeg) h (fun r6 h5 => wX9_contains r6 x1 h5 (fun r8 h7 => ((r8 = 0 → wX7_holderOf_L2 K  x0 x1 n x0 x1 (x2 + 1) h7) ∧ (¬ r8 = 0 → (isO h7 x0 5) ∧ (isA h7 (mR h7 x0 1) 6) ∧ (vp_in x2 (ln h7 (mR h7 x0 1))) ∧ (isO h7 (mR h7 (mR h7 x0 1) x2.toNatClampNeg) 6) ∧ K (mI h7 (mR h7 (mR h7 x0 1) x2.toNatClampNeg) 0) h7))))))
def wX7_holderOf (a0 : Nat) (a1 : Int32) (h : AH) (K : Int32 → AH → Prop) : Prop :=
  (∃ n15, wX7_holderOf_L2 K a0 a1 n15 0 h)
def wX9_trainAt (a0 : Nat) (a1 : Int32) (h : AH) (K : Int32 → AH → Prop) (T : String → AH → Prop) : Prop :=
  (isO h a0 0) ∧ wX9_checkBlock a0 a1 h (fun h1 => (isO h1 a0 0) ∧ (isO h1 (mR h1 a0 0) 5) ∧ wX7_holderOf (mR h1 a0 0) a1 h1 (fun r5 h4 => ((¬ r5 = (-1) → K r5 h4) ∧ (r5 = (-1) → T "java/util/NoSuchElementException" h4)))) T
def wX9_checkPoint (a0 : Nat) (a1 : Int32) (h : AH) (K : AH → Prop) (T : String → AH → Prop) : Prop :=
  (isO h a0 0) ∧ (isO h (mR h a0 0) 5) ∧ (isO h (mR h (mR h a0 0) 0) 2) ∧ wX4_hasPoint (mR h (mR h a0 0) 0) a1 h (fun r4 h3 => ((¬ r4 = 0 → K h3) ∧ (r4 = 0 → T "java/lang/IndexOutOfBoundsException" h3)))
def wX9_liesLeft (a0 : Nat) (a1 : Int32) (h : AH) (K : Int32 → AH → Prop) (T : String → AH → Prop) : Prop :=
  (isO h a0 0) ∧ wX9_checkPoint a0 a1 h (fun h1 => (isO h1 a0 0) ∧ (isO h1 (mR h1 a0 0) 5) ∧ (isO h1 (mR h1 (mR h1 a0 0) 0) 2) ∧ wX4_pointsLeft (mR h1 (mR h1 a0 0) 0) a1 h1 (fun r6 h5 => (narrow .boolean (.int r6) = .int r6) ∧ K r6 h5)) T
def wX9_lockedBy (a0 : Nat) (a1 : Int32) (h : AH) (K : Int32 → AH → Prop) (T : String → AH → Prop) : Prop :=
  (isO h a0 0) ∧ wX9_checkPoint a0 a1 h (fun h1 => (isO h1 a0 0) ∧ (isO h1 (mR h1 a0 0) 5) ∧ wX7_lockerOf (mR h1 a0 0) a1 h1 (fun r5 h4 => ((¬ r5 = (-1) → K r5 h4) ∧ (r5 = (-1) → T "java/util/NoSuchElementException" h4)))) T
def wX9_checkRoute (a0 : Nat) (a1 : Int32) (a2 : Int32) (h : AH) (K : AH → Prop) (T : String → AH → Prop) : Prop :=
  (isO h a0 0) ∧ wX9_checkBlock a0 a1 h (fun h1 => (isO h1 a0 0) ∧ wX9_checkBlock a0 a2 h1 (fun h3 => ((a1 = a2 → K h3) ∧ (¬ a1 = a2 → (isO h3 a0 0) ∧ (isO h3 (mR h3 a0 0) 5) ∧ (isO h3 (mR h3 (mR h3 a0 0) 0) 2) ∧ wX4_routeBlocks (mR h3 (mR h3 a0 0) 0) a1 a2 h3 (fun r9 h8 => ((¬ r9 = 0 → K h8) ∧ (r9 = 0 → T "java/util/NoSuchElementException" h8)))))) T) T
def wX9_routeLength (a0 : Nat) (a1 : Int32) (a2 : Int32) (h : AH) (K : Int32 → AH → Prop) (T : String → AH → Prop) : Prop :=
  (isO h a0 0) ∧ wX9_checkRoute a0 a1 a2 h (fun h1 => (isO h1 a0 0) ∧ (isO h1 (mR h1 a0 0) 5) ∧ (isO h1 (mR h1 (mR h1 a0 0) 0) 2) ∧ wX4_routeBlocks (mR h1 (mR h1 a0 0) 0) a1 a2 h1 (fun r6 h5 => (isO h5 (mR h1 (mR h1 a0 0) 0) 2) ∧ wX4_totalLength (mR h1 (mR h1 a0 0) 0) r6 h5 (fun r8 h7 => K r8 h7))) T
def wX4_tryPaths_b (rec : Nat → Int32 → Int32 → Int32 → Int32 → AH → (Int32 → AH → Prop) → Prop) (a0 : Nat) (a1 : Int32) (a2 : Int32) (a3 : Int32) (a4 : Int32) (h : AH) (K : Int32 → AH → Prop) : Prop :=
  ((¬ a1 = a2 → ((12 ≤ a4 → K 1000000 h) ∧ (¬ 12 ≤ a4 → (isO h a0 2) ∧ wX4_hasExit a0 a1 h (fun r4 h3 => ((r4 = 0 → K 1000000 h3) ∧ (¬ r4 = 0 → wX9_contains a3 a1 h3 (fun r7 h6 => ((r7 = 0 → (isO h6 a0 2) ∧ (isA h6 (mR h6 a0 6) 0) ∧ (vp_in a1 (ln h6 (mR h6 a0 6))) ∧ (isA h6 (mR h6 a0 7) 0) ∧ (vp_in a1 (ln h6 (mR h6 a0 7))) ∧ rec a0 (mI h6 (mR h6 a0 6) a1.toNatClampNeg) a2 (a3 ||| (1 <<< (a1 &&& 31))) (a4 + 1) h6 (fun r15 h14 => (isO h14 a0 2) ∧ wX4_lengthOf a0 (mI h6 (mR h6 a0 6) a1.toNatClampNeg) h14 (fun r17 h16 => ((¬ mI h6 (mR h6 a0 6) a1.toNatClampNeg = mI h6 (mR h6 a0 7) a1.toNatClampNeg → rec a0 (mI h6 (mR h6 a0 7) a1.toNatClampNeg) a2 (a3 ||| (1 <<< (a1 &&& 31))) (a4 + 1) h16 (fun r20 h19 => (isO h19 a0 2) ∧ wX4_lengthOf a0 (mI h6 (mR h6 a0 7) a1.toNatClampNeg) h19 (fun r22 h21 => K (if (r20 + r22) < (r15 + r17) then (r20 + r22) else (r15 + r17)) h21))) ∧ (mI h6 (mR h6 a0 6) a1.toNatClampNeg = mI h6 (mR h6 a0 7) a1.toNatClampNeg → K (r15 + r17) h16))))) ∧ (¬ r7 = 0 → K 1000000 h6))))))))) ∧ (a1 = a2 → K 0 h))
def wX4_tryPaths : Nat → Nat → Int32 → Int32 → Int32 → Int32 → AH → (Int32 → AH → Prop) → Prop
  | 0 => fun _ _ _ _ _ _ _ => False
  | d + 1 => wX4_tryPaths_b (wX4_tryPaths d)
def wX4_shortestPath (a0 : Nat) (a1 : Int32) (a2 : Int32) (h : AH) (K : Int32 → AH → Prop) : Prop :=
  wX4_tryPaths 14 a0 a1 a2 0 0 h (fun r2 h1 => ((r2 < 1000000 → K r2 h1) ∧ (¬ r2 < 1000000 → K (-1) h1)))
def wX9_routeLengthByPaths (a0 : Nat) (a1 : Int32) (a2 : Int32) (h : AH) (K : Int32 → AH → Prop) (T : String → AH → Prop) : Prop :=
  (isO h a0 0) ∧ wX9_checkBlock a0 a1 h (fun h1 => (isO h1 a0 0) ∧ wX9_checkBlock a0 a2 h1 (fun h3 => (isO h3 a0 0) ∧ (isO h3 (mR h3 a0 0) 5) ∧ (isO h3 (mR h3 (mR h3 a0 0) 0) 2) ∧ wX4_shortestPath (mR h3 (mR h3 a0 0) 0) a1 a2 h3 (fun r8 h7 => ((¬ r8 = (-1) → K r8 h7) ∧ (r8 = (-1) → T "java/util/NoSuchElementException" h7)))) T) T
def wX4_blockOnRoute_L18 (K : Int32 → AH → Prop)  (x0 : Nat) (x2 : Int32) (x3 : Int32) : Nat → Int32 → Int32 → AH → Prop
  | 0 => fun _ _ _ => False
  | n + 1 => fun x4 x5 h =>
  ((x3 ≤ x5 → K x4 h) ∧ (¬ x3 ≤ x5 → (isO h x0 2) ∧ wX4_nextOnRoute x0 x4 x2 h (fun r5 h4 => wX4_blockOnRoute_L18 K  x0 x2 x3 n x0 x2 x3 r5 (x5 + 1) h4)))
def wX4_blockOnRoute (a0 : Nat) (a1 : Int32) (a2 : Int32) (a3 : Int32) (h : AH) (K : Int32 → AH → Prop) : Prop :=
  ((a3 < 0 → K (-1) h) ∧ (¬ a3 < 0 → ((a3 < 12 → (∃ n7, wX4_blockOnRoute_L18 K a0 a2 a3 n7 a1 0 h)) ∧ (¬ a3 < 12 → K (-1) h))))
def wX9_routeBlock (a0 : Nat) (a1 : Int32) (a2 : Int32) (a3 : Int32) (h : AH) (K : Int32 → AH → Prop) (T : String → AH → Prop) : Prop :=
  (isO h a0 0) ∧ wX9_checkRoute a0 a1 a2 h (fun h1 => (isO h1 a0 0) ∧ (isO h1 (mR h1 a0 0) 5) ∧ (isO h1 (mR h1 (mR h1 a0 0) 0) 2) ∧ wX4_blockOnRoute (mR h1 (mR h1 a0 0) 0) a1 a2 a3 h1 (fun r6 h5 => ((¬ r6 = (-1) → K r6 h5) ∧ (r6 = (-1) → T "java/util/NoSuchElementException" h5)))) T
def wX4_isStem (a0 : Nat) (a1 : Int32) (h : AH) (K : Int32 → AH → Prop) : Prop :=
  (isO h a0 2) ∧ wX4_has a0 a1 h (fun r2 h1 => ((r2 = 0 → K 0 h1) ∧ (¬ r2 = 0 → (isO h1 a0 2) ∧ (isA h1 (mR h1 a0 6) 0) ∧ (vp_in a1 (ln h1 (mR h1 a0 6))) ∧ (isA h1 (mR h1 a0 7) 0) ∧ (vp_in a1 (ln h1 (mR h1 a0 7))) ∧ ((mI h1 (mR h1 a0 6) a1.toNatClampNeg = mI h1 (mR h1 a0 7) a1.toNatClampNeg → K 0 h1) ∧ (¬ mI h1 (mR h1 a0 6) a1.toNatClampNeg = mI h1 (mR h1 a0 7) a1.toNatClampNeg → K 1 h1)))))
def wX4_countPaths_b (rec : Nat → Int32 → Int32 → Int32 → Int32 → AH → (Int32 → AH → Prop) → Prop) (a0 : Nat) (a1 : Int32) (a2 : Int32) (a3 : Int32) (a4 : Int32) (h : AH) (K : Int32 → AH → Prop) : Prop :=
  ((¬ a1 = a2 → ((12 ≤ a4 → K 0 h) ∧ (¬ 12 ≤ a4 → (isO h a0 2) ∧ wX4_hasExit a0 a1 h (fun r4 h3 => ((r4 = 0 → K 0 h3) ∧ (¬ r4 = 0 → wX9_contains a3 a1 h3 (fun r7 h6 => ((r7 = 0 → (isO h6 a0 2) ∧ (isA h6 (mR h6 a0 6) 0) ∧ (vp_in a1 (ln h6 (mR h6 a0 6))) ∧ rec a0 (mI h6 (mR h6 a0 6) a1.toNatClampNeg) a2 (a3 ||| (1 <<< (a1 &&& 31))) (a4 + 1) h6 (fun r13 h12 => (isO h12 a0 2) ∧ wX4_isStem a0 a1 h12 (fun r15 h14 => ((r15 = 0 → K r13 h14) ∧ (¬ r15 = 0 → (isO h14 a0 2) ∧ (isA h14 (mR h14 a0 7) 0) ∧ (vp_in a1 (ln h14 (mR h14 a0 7))) ∧ rec a0 (mI h14 (mR h14 a0 7) a1.toNatClampNeg) a2 (a3 ||| (1 <<< (a1 &&& 31))) (a4 + 1) h14 (fun r21 h20 => K (r13 + r21) h20)))))) ∧ (¬ r7 = 0 → K 0 h6))))))))) ∧ (a1 = a2 → K 1 h))
def wX4_countPaths : Nat → Nat → Int32 → Int32 → Int32 → Int32 → AH → (Int32 → AH → Prop) → Prop
  | 0 => fun _ _ _ _ _ _ _ => False
  | d + 1 => wX4_countPaths_b (wX4_countPaths d)
def wX4_numberOfPaths (a0 : Nat) (a1 : Int32) (a2 : Int32) (h : AH) (K : Int32 → AH → Prop) : Prop :=
  wX4_countPaths 14 a0 a1 a2 0 0 h (fun r2 h1 => K r2 h1)
def wX9_paths (a0 : Nat) (a1 : Int32) (a2 : Int32) (h : AH) (K : Int32 → AH → Prop) (T : String → AH → Prop) : Prop :=
  (isO h a0 0) ∧ wX9_checkBlock a0 a1 h (fun h1 => (isO h1 a0 0) ∧ wX9_checkBlock a0 a2 h1 (fun h3 => (isO h3 a0 0) ∧ (isO h3 (mR h3 a0 0) 5) ∧ (isO h3 (mR h3 (mR h3 a0 0) 0) 2) ∧ wX4_numberOfPaths (mR h3 (mR h3 a0 0) 0) a1 a2 h3 (fun r8 h7 => K r8 h7)) T) T
def wX9_trains (a0 : Nat) (h : AH) (K : Int32 → AH → Prop) : Prop :=
  (isO h a0 0) ∧ (isO h (mR h a0 0) 5) ∧ K (mI h (mR h a0 0) 3) h
def wX9_isPresent (a0 : Nat) (a1 : Int32) (h : AH) (K : Int32 → AH → Prop) : Prop :=
  (isO h a0 0) ∧ (isO h (mR h a0 0) 5) ∧ wX7_find (mR h a0 0) a1 h (fun r3 h2 => ((r3 = 0 → K 0 h2) ∧ (¬ r3 = 0 → K 1 h2)))
def wX9_presentTrain (a0 : Nat) (a1 : Int32) (h : AH) (K : Nat → AH → Prop) (T : String → AH → Prop) : Prop :=
  (isO h a0 0) ∧ (isO h (mR h a0 0) 5) ∧ wX7_find (mR h a0 0) a1 h (fun r3 h2 => ((r3 = 0 → T "java/util/NoSuchElementException" h2) ∧ (¬ r3 = 0 → K r3 h2)))
def wX9_blockOf (a0 : Nat) (a1 : Int32) (h : AH) (K : Int32 → AH → Prop) (T : String → AH → Prop) : Prop :=
  (isO h a0 0) ∧ wX9_presentTrain a0 a1 h (fun r2 h1 => (isO h1 r2 6) ∧ K (mI h1 r2 1) h1) T
def wX9_destination (a0 : Nat) (a1 : Int32) (h : AH) (K : Int32 → AH → Prop) (T : String → AH → Prop) : Prop :=
  (isO h a0 0) ∧ wX9_presentTrain a0 a1 h (fun r2 h1 => (isO h1 r2 6) ∧ K (mI h1 r2 2) h1) T
def wX9_hasRoute (a0 : Nat) (a1 : Int32) (h : AH) (K : Int32 → AH → Prop) (T : String → AH → Prop) : Prop :=
  (isO h a0 0) ∧ wX9_presentTrain a0 a1 h (fun r2 h1 => (isO h1 r2 6) ∧ wX8_isRouted r2 h1 (fun r4 h3 => (narrow .boolean (.int r4) = .int r4) ∧ K r4 h3)) T
def wX9_isClear (a0 : Nat) (a1 : Int32) (h : AH) (K : Int32 → AH → Prop) (T : String → AH → Prop) : Prop :=
  (isO h a0 0) ∧ wX9_presentTrain a0 a1 h (fun r3 h2 => (isO h2 (mR h a0 0) 5) ∧ wX7_canSet (mR h a0 0) r3 h2 (fun r5 h4 => (narrow .boolean (.int r5) = .int r5) ∧ K r5 h4)) T
def wX9_routedTrain (a0 : Nat) (a1 : Int32) (h : AH) (K : Nat → AH → Prop) (T : String → AH → Prop) : Prop :=
  (isO h a0 0) ∧ wX9_presentTrain a0 a1 h (fun r2 h1 => (isO h1 r2 6) ∧ wX8_isRouted r2 h1 (fun r4 h3 => ((¬ r4 = 0 → K r2 h3) ∧ (r4 = 0 → T "java/util/NoSuchElementException" h3)))) T
def wX9_minutesUntilNext (a0 : Nat) (a1 : Int32) (h : AH) (K : Int32 → AH → Prop) (T : String → AH → Prop) : Prop :=
  (isO h a0 0) ∧ wX9_routedTrain a0 a1 h (fun r2 h1 => (isO h1 r2 6) ∧ (isO h1 a0 0) ∧ (isO h1 (mR h1 a0 0) 5) ∧ K (mI h1 r2 4 - mI h1 (mR h1 a0 0) 7) h1) T
def wX7_minutesToGo (a0 : Nat) (a1 : Nat) (h : AH) (K : Int32 → AH → Prop) : Prop :=
  (isO h a1 6) ∧ (isO h a0 5) ∧ (isO h (mR h a0 0) 2) ∧ wX4_exitOf (mR h a0 0) (mI h a1 1) h (fun r4 h3 => (isO h3 (mR h a0 0) 2) ∧ wX4_lengthOf (mR h a0 0) r4 h3 (fun r6 h5 => (isO h5 a0 5) ∧ (isO h5 a1 6) ∧ (isO h5 (mR h5 a0 0) 2) ∧ wX4_totalLength (mR h5 a0 0) (mI h5 a1 3) h5 (fun r10 h9 => K (((mI h a1 4 - mI h a0 7) + r10) - r6) h9)))
def wX9_minutesUntilArrival (a0 : Nat) (a1 : Int32) (h : AH) (K : Int32 → AH → Prop) (T : String → AH → Prop) : Prop :=
  (isO h a0 0) ∧ wX9_routedTrain a0 a1 h (fun r3 h2 => (isO h2 (mR h a0 0) 5) ∧ wX7_minutesToGo (mR h a0 0) r3 h2 (fun r5 h4 => K r5 h4)) T
def wX9_minutesUntilArrivalByPassing_L25 (K : Int32 → AH → Prop) (T : String → AH → Prop)  (x0 : Nat) (x2 : Int32) : Nat → Int32 → Int32 → AH → Prop
  | 0 => fun _ _ _ => False
  | n + 1 => fun x3 x4 h =>
  ((108 ≤ x4 → K x3 h) ∧ (¬ 108 ≤ x4 → (isO h x0 0) ∧ (isO h (mR h x0 2) 5) ∧ wX7_find (mR h x0 2) x2 h (fun r10 h9 => ((r10 = 0 → K x3 h9) ∧ (¬ r10 = 0 → (isO h9 x0 0) ∧ (isO h9 (mR h9 x0 2) 5) ∧ wX7_passMinute (mR h9 x0 2) h9 (fun h13 => wX9_minutesUntilArrivalByPassing_L25 K T  x0 x2 n x0 x2 (x3 + 1) (x4 + 1) h13))))))
def wX9_minutesUntilArrivalByPassing (a0 : Nat) (a1 : Int32) (h : AH) (K : Int32 → AH → Prop) (T : String → AH → Prop) : Prop :=
  (isO h a0 0) ∧ wX9_routedTrain a0 a1 h (fun r2 h1 => (isO h1 r2 6) ∧ (isO h1 a0 0) ∧ (isO h1 (mR h1 a0 2) 5) ∧ wX7_copyFrom (mR h1 a0 2) (mR h1 a0 0) h1 (fun h5 => (∃ n17, wX9_minutesUntilArrivalByPassing_L25 K T a0 (mI h1 r2 0) n17 0 0 h5))) T
def wX9_delay (a0 : Nat) (a1 : Int32) (h : AH) (K : Int32 → AH → Prop) (T : String → AH → Prop) : Prop :=
  (isO h a0 0) ∧ wX9_presentTrain a0 a1 h (fun r2 h1 => (isO h1 r2 6) ∧ K (mI h1 r2 5) h1) T
def wX7_inQueue (a0 : Nat) (a1 : Int32) (h : AH) (K : Int32 → AH → Prop) : Prop :=
  ((a1 < 0 → K (-1) h) ∧ (¬ a1 < 0 → (isO h a0 5) ∧ ((mI h a0 4 ≤ a1 → K (-1) h) ∧ (¬ mI h a0 4 ≤ a1 → (isA h (mR h a0 2) 0) ∧ (vp_in a1 (ln h (mR h a0 2))) ∧ K (mI h (mR h a0 2) a1.toNatClampNeg) h))))
def wX9_queued (a0 : Nat) (a1 : Int32) (h : AH) (K : Int32 → AH → Prop) (T : String → AH → Prop) : Prop :=
  (isO h a0 0) ∧ (isO h (mR h a0 0) 5) ∧ wX7_inQueue (mR h a0 0) a1 h (fun r3 h2 => ((¬ r3 = (-1) → K r3 h2) ∧ (r3 = (-1) → T "java/util/NoSuchElementException" h2)))
def wX7_routeOf (a0 : Nat) (a1 : Nat) (h : AH) (K : Int32 → AH → Prop) : Prop :=
  (isO h a0 5) ∧ (isO h a1 6) ∧ (isO h (mR h a0 0) 2) ∧ wX4_routeBlocks (mR h a0 0) (mI h a1 1) (mI h a1 2) h (fun r4 h3 => K r4 h3)
def wX7_waits (a0 : Nat) (a1 : Nat) (a2 : Nat) (h : AH) (K : Int32 → AH → Prop) : Prop :=
  (isO h a1 6) ∧ wX8_isRouted a1 h (fun r2 h1 => ((¬ r2 = 0 → K 0 h1) ∧ (r2 = 0 → (isO h1 a0 5) ∧ wX7_routeOf a0 a1 h1 (fun r5 h4 => (isO h4 a2 6) ∧ wX8_held a2 h4 (fun r7 h6 => (((r5 &&& r7) = 0 → K 0 h6) ∧ (¬ (r5 &&& r7) = 0 → K 1 h6)))))))
def wX9_waitsFor (a0 : Nat) (a1 : Int32) (a2 : Int32) (h : AH) (K : Int32 → AH → Prop) (T : String → AH → Prop) : Prop :=
  (isO h a0 0) ∧ wX9_presentTrain a0 a1 h (fun r2 h1 => (isO h1 a0 0) ∧ wX9_presentTrain a0 a2 h1 (fun r4 h3 => ((a1 = a2 → K 0 h3) ∧ (¬ a1 = a2 → (isO h3 a0 0) ∧ (isO h3 (mR h3 a0 0) 5) ∧ wX7_waits (mR h3 a0 0) r2 r4 h3 (fun r8 h7 => ((r8 = 0 → K 0 h7) ∧ (¬ r8 = 0 → K 1 h7)))))) T) T
def wX6_begin (a0 : Nat) (a1 : Int32) (h : AH) (K : AH → Prop) : Prop :=
  (isO h a0 4) ∧ ∀ h2, h2 = uI h a0 0 (if 0 < (if 8 < a1 then 8 else a1) then (if 8 < a1 then 8 else a1) else 0) → wJ7_fill_53178 (mR h a0 1) 0 h2 (fun h3 => K h3)
def wX6_relate (a0 : Nat) (a1 : Int32) (a2 : Int32) (h : AH) (K : AH → Prop) : Prop :=
  ((a1 < 0 → K h) ∧ (¬ a1 < 0 → (isO h a0 4) ∧ ((mI h a0 0 ≤ a1 → K h) ∧ (¬ mI h a0 0 ≤ a1 → (isA h (mR h a0 1) 0) ∧ (vp_in a1 (ln h (mR h a0 1))) ∧ (nZ ≤ (mR h a0 1)) ∧ ∀ h7, h7 = uI h (mR h a0 1) a1.toNatClampNeg (mI h (mR h a0 1) a1.toNatClampNeg ||| (1 <<< (a2 &&& 31))) → K h7))))
def wX7_relateWaiting_L20 (K : AH → Prop) (c64 : Nat → Nat → Int32 → AH → Prop) (x0 : Nat) (x1 : Nat) (x2 : Int32) : Nat → Int32 → AH → Prop
  | 0 => fun _ _ => False
  | n + 1 => fun x3 h =>
  (isO h x0 5) ∧ ((mI h x0 3 ≤ x3 → c64 x0 x1 x2 h) ∧ (¬ mI h x0 3 ≤ x3 → ((x2 = x3 → wX7_relateWaiting_L20 K c64 x0 x1 x2 n x0 x1 x2 (x3 + 1) h) ∧ (¬ x2 = x3 → (isA h (mR h x0 1) 6) ∧ (vp_in x2 (ln h (mR h x0 1))) ∧ (vp_in x3 (ln h (mR h x0 1))) ∧ wX7_waits x0 (mR h (mR h x0 1) x2.toNatClampNeg) (mR h (mR h x0 1) x3.toNatClampNeg) h (fun r13 h12 => ((r13 = 0 → wX7_relateWaiting_L20 K c64 x0 x1 x2 n x0 x1 x2 (x3 + 1) h12) ∧ (¬ r13 = 0 → (isO h12 x1 4) ∧ wX6_relate x1 x2 x3 h12 (fun h15 => wX7_relateWaiting_L20 K c64 x0 x1 x2 n x0 x1 x2 (x3 + 1) h15))))))))
def wX7_relateWaiting_L10 (K : AH → Prop)  (x0 : Nat) (x1 : Nat) : Nat → Int32 → AH → Prop
  | 0 => fun _ _ => False
  | n + 1 => fun x2 h =>
  (isO h x0 5) ∧ ((mI h x0 3 ≤ x2 → K h) ∧ (¬ mI h x0 3 ≤ x2 → (∃ n22, wX7_relateWaiting_L20 K (fun x0_18 x1_19 x2_20 h21 => wX7_relateWaiting_L10 K  x0 x1 n x0_18 x1_19 (x2_20 + 1) h21) x0 x1 x2 n22 0 h)))
def wX7_relateWaiting (a0 : Nat) (a1 : Nat) (h : AH) (K : AH → Prop) : Prop :=
  (isO h a0 5) ∧ (isO h a1 4) ∧ wX6_begin a1 (mI h a0 3) h (fun h2 => (∃ n23, wX7_relateWaiting_L10 K a0 a1 n23 0 h2))
def wX6_enter (a0 : Nat) (a1 : Int32) (h : AH) (K : AH → Prop) : Prop :=
  (isO h a0 4) ∧ ∀ h2, h2 = uI h a0 4 (mI h a0 4 + 1) → (isA h (mR h a0 2) 0) ∧ (nZ ≤ (mR h a0 2)) ∧ (vp_in a1 (ln h (mR h a0 2))) ∧ ∀ h6, h6 = uI h2 (mR h a0 2) a1.toNatClampNeg (mI h2 a0 4) → (isA h (mR h a0 3) 0) ∧ (nZ ≤ (mR h a0 3)) ∧ (vp_in a1 (ln h (mR h a0 3))) ∧ ∀ h10, h10 = uI h6 (mR h a0 3) a1.toNatClampNeg (mI h6 a0 4) → ∀ h11, h11 = uI h10 a0 5 (mI h10 a0 5 ||| (1 <<< (a1 &&& 31))) → K h11
def wX6_closeSet_L4 (K : AH → Prop)  (x0 : Nat) (x1 : Int32) : Nat → Int32 → Int32 → AH → Prop
  | 0 => fun _ _ _ => False
  | n + 1 => fun x2 x3 h =>
  (isO h x0 4) ∧ ((mI h x0 0 ≤ x3 → ((x2 ≤ 1 → K h) ∧ (¬ x2 ≤ 1 → ∀ h4, h4 = uI h x0 6 (mI h x0 6 + x2) → K h4))) ∧ (¬ mI h x0 0 ≤ x3 → wX9_contains (mI h x0 5) x3 h (fun r6 h5 => ((r6 = 0 → wX6_closeSet_L4 K  x0 x1 n x0 x1 x2 (x3 + 1) h5) ∧ (¬ r6 = 0 → (isO h5 x0 4) ∧ (isA h5 (mR h5 x0 2) 0) ∧ (vp_in x3 (ln h5 (mR h5 x0 2))) ∧ ((mI h5 (mR h5 x0 2) x3.toNatClampNeg < x1 → wX6_closeSet_L4 K  x0 x1 n x0 x1 x2 (x3 + 1) h5) ∧ (¬ mI h5 (mR h5 x0 2) x3.toNatClampNeg < x1 → ∀ h12, h12 = uI h5 x0 5 (mI h5 x0 5 &&& ((1 <<< (x3 &&& 31)) ^^^ (-1))) → wX6_closeSet_L4 K  x0 x1 n x0 x1 (x2 + 1) (x3 + 1) h12)))))))
def wX6_closeSet (a0 : Nat) (a1 : Int32) (h : AH) (K : AH → Prop) : Prop :=
  (∃ n13, wX6_closeSet_L4 K a0 a1 n13 0 0 h)
def wX6_search_L30 (rec : Nat → Int32 → Int32 → AH → (AH → Prop) → Prop) (K : AH → Prop)  (x0 : Nat) (x1 : Int32) (x2 : Int32) : Nat → Int32 → Int32 → AH → Prop
  | 0 => fun _ _ _ => False
  | n + 1 => fun x3 x4 h =>
  (isO h x0 4) ∧ ((mI h x0 0 ≤ x4 → (isA h (mR h x0 3) 0) ∧ (nZ ≤ (mR h x0 3)) ∧ (vp_in x1 (ln h (mR h x0 3))) ∧ ∀ h14, h14 = uI h (mR h x0 3) x1.toNatClampNeg x3 → (isA h (mR h x0 2) 0) ∧ (vp_in x1 (ln h (mR h x0 2))) ∧ ((¬ x3 = mI h14 (mR h x0 2) x1.toNatClampNeg → K h14) ∧ (x3 = mI h14 (mR h x0 2) x1.toNatClampNeg → wX6_closeSet x0 x3 h14 (fun h18 => K h18)))) ∧ (¬ mI h x0 0 ≤ x4 → (isA h (mR h x0 1) 0) ∧ (vp_in x1 (ln h (mR h x0 1))) ∧ wX9_contains (mI h (mR h x0 1) x1.toNatClampNeg) x4 h (fun r23 h22 => ((r23 = 0 → wX6_search_L30 rec K  x0 x1 x2 n x0 x1 x2 x3 (x4 + 1) h22) ∧ (¬ r23 = 0 → (isO h22 x0 4) ∧ (isA h22 (mR h22 x0 2) 0) ∧ (vp_in x4 (ln h22 (mR h22 x0 2))) ∧ ((¬ mI h22 (mR h22 x0 2) x4.toNatClampNeg = 0 → wX9_contains (mI h22 x0 5) x4 h22 (fun r30 h29 => ((r30 = 0 → wX6_search_L30 rec K  x0 x1 x2 n x0 x1 x2 x3 (x4 + 1) h29) ∧ (¬ r30 = 0 → (isO h29 x0 4) ∧ (isA h29 (mR h29 x0 2) 0) ∧ (vp_in x4 (ln h29 (mR h29 x0 2))) ∧ ∀ v35 : Int32, v35 = (if mI h29 (mR h29 x0 2) x4.toNatClampNeg < x3 then mI h29 (mR h29 x0 2) x4.toNatClampNeg else x3) → wX6_search_L30 rec K  x0 x1 x2 n x0 x1 x2 v35 (x4 + 1) h29)))) ∧ (mI h22 (mR h22 x0 2) x4.toNatClampNeg = 0 → rec x0 x4 (x2 + 1) h22 (fun h37 => (isO h37 x0 4) ∧ (isA h37 (mR h37 x0 3) 0) ∧ (vp_in x4 (ln h37 (mR h37 x0 3))) ∧ ∀ v42 : Int32, v42 = (if mI h37 (mR h37 x0 3) x4.toNatClampNeg < x3 then mI h37 (mR h37 x0 3) x4.toNatClampNeg else x3) → wX6_search_L30 rec K  x0 x1 x2 n x0 x1 x2 v42 (x4 + 1) h37))))))))
def wX6_search_b (rec : Nat → Int32 → Int32 → AH → (AH → Prop) → Prop) (a0 : Nat) (a1 : Int32) (a2 : Int32) (h : AH) (K : AH → Prop) : Prop :=
  ((8 ≤ a2 → K h) ∧ (¬ 8 ≤ a2 → (isO h a0 4) ∧ ((a1 < mI h a0 0 → wX6_enter a0 a1 h (fun h4 => (isO h4 a0 4) ∧ (isA h4 (mR h4 a0 2) 0) ∧ (vp_in a1 (ln h4 (mR h4 a0 2))) ∧ (∃ n44, wX6_search_L30 rec K a0 a1 a2 n44 (mI h4 (mR h4 a0 2) a1.toNatClampNeg) 0 h4))) ∧ (¬ a1 < mI h a0 0 → K h))))
def wX6_search : Nat → Nat → Int32 → Int32 → AH → (AH → Prop) → Prop
  | 0 => fun _ _ _ _ _ => False
  | d + 1 => wX6_search_b (wX6_search d)
def wX6_inCircles_L25 (K : Int32 → AH → Prop)  (x0 : Nat) : Nat → Int32 → AH → Prop
  | 0 => fun _ _ => False
  | n + 1 => fun x1 h =>
  (isO h x0 4) ∧ ((mI h x0 0 ≤ x1 → K (mI h x0 6) h) ∧ (¬ mI h x0 0 ≤ x1 → (isA h (mR h x0 2) 0) ∧ (vp_in x1 (ln h (mR h x0 2))) ∧ ((¬ mI h (mR h x0 2) x1.toNatClampNeg = 0 → wX6_inCircles_L25 K  x0 n x0 (x1 + 1) h) ∧ (mI h (mR h x0 2) x1.toNatClampNeg = 0 → wX6_search 10 x0 x1 0 h (fun h13 => wX6_inCircles_L25 K  x0 n x0 (x1 + 1) h13)))))
def wX6_inCircles (a0 : Nat) (h : AH) (K : Int32 → AH → Prop) : Prop :=
  (isO h a0 4) ∧ wJ7_fill_53178 (mR h a0 2) 0 h (fun h2 => (isO h2 a0 4) ∧ ∀ h5, h5 = uI h2 a0 4 0 → ∀ h6, h6 = uI h5 a0 5 0 → ∀ h7, h7 = uI h6 a0 6 0 → (∃ n15, wX6_inCircles_L25 K a0 n15 0 h7))
def wX9_deadlocked (a0 : Nat) (h : AH) (K : Int32 → AH → Prop) : Prop :=
  (isO h a0 0) ∧ (isO h (mR h a0 0) 5) ∧ wX7_relateWaiting (mR h a0 0) (mR h a0 4) h (fun h2 => (isO h2 a0 0) ∧ (isO h2 (mR h2 a0 4) 4) ∧ wX6_inCircles (mR h2 a0 4) h2 (fun r6 h5 => K r6 h5))
def wX6_inCirclesByPairs_L12 (K : Int32 → AH → Prop) (c54 : Nat → Int32 → AH → Prop) (x0 : Nat) (x1 : Int32) : Nat → Int32 → AH → Prop
  | 0 => fun _ _ => False
  | n + 1 => fun x2 h =>
  (isO h x0 4) ∧ ((mI h x0 0 ≤ x2 → c54 x0 x1 h) ∧ (¬ mI h x0 0 ≤ x2 → (isA h (mR h x0 1) 0) ∧ (vp_in x2 (ln h (mR h x0 1))) ∧ wX9_contains (mI h (mR h x0 1) x2.toNatClampNeg) x1 h (fun r8 h7 => ((r8 = 0 → wX6_inCirclesByPairs_L12 K c54 x0 x1 n x0 x1 (x2 + 1) h7) ∧ (¬ r8 = 0 → (isO h7 x0 4) ∧ (isA h7 (mR h7 x0 1) 0) ∧ (vp_in x2 (ln h7 (mR h7 x0 1))) ∧ (vp_in x1 (ln h7 (mR h7 x0 1))) ∧ (nZ ≤ (mR h7 x0 1)) ∧ ∀ h15, h15 = uI h7 (mR h7 x0 1) x2.toNatClampNeg (mI h7 (mR h7 x0 1) x2.toNatClampNeg ||| mI h7 (mR h7 x0 1) x1.toNatClampNeg) → wX6_inCirclesByPairs_L12 K c54 x0 x1 n x0 x1 (x2 + 1) h15)))))
def wX6_inCirclesByPairs_L2 (K : Int32 → AH → Prop) (c60 : Nat → AH → Prop) (x0 : Nat) : Nat → Int32 → AH → Prop
  | 0 => fun _ _ => False
  | n + 1 => fun x1 h =>
  (isO h x0 4) ∧ ((mI h x0 0 ≤ x1 → c60 x0 h) ∧ (¬ mI h x0 0 ≤ x1 → (∃ n19, wX6_inCirclesByPairs_L12 K (fun x0_16 x1_17 h18 => wX6_inCirclesByPairs_L2 K c60 x0 n x0_16 (x1_17 + 1) h18) x0 x1 n19 0 h)))
def wX6_inCirclesByPairs_L64 (K : Int32 → AH → Prop)  (x0 : Nat) : Nat → Int32 → Int32 → AH → Prop
  | 0 => fun _ _ _ => False
  | n + 1 => fun x1 x2 h =>
  (isO h x0 4) ∧ ((mI h x0 0 ≤ x2 → K x1 h) ∧ (¬ mI h x0 0 ≤ x2 → (isA h (mR h x0 1) 0) ∧ (vp_in x2 (ln h (mR h x0 1))) ∧ wX9_contains (mI h (mR h x0 1) x2.toNatClampNeg) x2 h (fun r27 h26 => ((r27 = 0 → wX6_inCirclesByPairs_L64 K  x0 n x0 x1 (x2 + 1) h26) ∧ (¬ r27 = 0 → wX6_inCirclesByPairs_L64 K  x0 n x0 (x1 + 1) (x2 + 1) h26)))))
def wX6_inCirclesByPairs (a0 : Nat) (h : AH) (K : Int32 → AH → Prop) : Prop :=
  (∃ n30, wX6_inCirclesByPairs_L2 K (fun x0_20 h21 => (∃ n29, wX6_inCirclesByPairs_L64 K x0_20 n29 0 0 h21)) a0 n30 0 h)
def wX9_deadlockedByPairs (a0 : Nat) (h : AH) (K : Int32 → AH → Prop) : Prop :=
  (isO h a0 0) ∧ (isO h (mR h a0 0) 5) ∧ wX7_relateWaiting (mR h a0 0) (mR h a0 4) h (fun h2 => (isO h2 a0 0) ∧ (isO h2 (mR h2 a0 4) 4) ∧ wX6_inCirclesByPairs (mR h2 a0 4) h2 (fun r6 h5 => K r6 h5))
def wX7_routesMeet (a0 : Nat) (a1 : Nat) (a2 : Nat) (h : AH) (K : Int32 → AH → Prop) : Prop :=
  (isO h a0 5) ∧ wX7_routeOf a0 a1 h (fun r2 h1 => (isO h1 a0 5) ∧ wX7_routeOf a0 a2 h1 (fun r4 h3 => (((r2 &&& r4) = 0 → K 0 h3) ∧ (¬ (r2 &&& r4) = 0 → K 1 h3))))
def wX9_conflict (a0 : Nat) (a1 : Int32) (a2 : Int32) (h : AH) (K : Int32 → AH → Prop) (T : String → AH → Prop) : Prop :=
  (isO h a0 0) ∧ wX9_presentTrain a0 a1 h (fun r2 h1 => (isO h1 a0 0) ∧ wX9_presentTrain a0 a2 h1 (fun r4 h3 => ((¬ a1 = a2 → (isO h3 a0 0) ∧ (isO h3 (mR h3 a0 0) 5) ∧ wX7_routesMeet (mR h3 a0 0) r2 r4 h3 (fun r8 h7 => (narrow .boolean (.int r8) = .int r8) ∧ K r8 h7)) ∧ (a1 = a2 → T "java/lang/IllegalArgumentException" h3))) T) T
def wX7_relateConflicts_L20 (K : AH → Prop) (c64 : Nat → Nat → Int32 → AH → Prop) (x0 : Nat) (x1 : Nat) (x2 : Int32) : Nat → Int32 → AH → Prop
  | 0 => fun _ _ => False
  | n + 1 => fun x3 h =>
  (isO h x0 5) ∧ ((mI h x0 3 ≤ x3 → c64 x0 x1 x2 h) ∧ (¬ mI h x0 3 ≤ x3 → ((x2 = x3 → wX7_relateConflicts_L20 K c64 x0 x1 x2 n x0 x1 x2 (x3 + 1) h) ∧ (¬ x2 = x3 → (isA h (mR h x0 1) 6) ∧ (vp_in x2 (ln h (mR h x0 1))) ∧ (vp_in x3 (ln h (mR h x0 1))) ∧ wX7_routesMeet x0 (mR h (mR h x0 1) x2.toNatClampNeg) (mR h (mR h x0 1) x3.toNatClampNeg) h (fun r13 h12 => ((r13 = 0 → wX7_relateConflicts_L20 K c64 x0 x1 x2 n x0 x1 x2 (x3 + 1) h12) ∧ (¬ r13 = 0 → (isO h12 x1 4) ∧ wX6_relate x1 x2 x3 h12 (fun h15 => wX7_relateConflicts_L20 K c64 x0 x1 x2 n x0 x1 x2 (x3 + 1) h15))))))))
def wX7_relateConflicts_L10 (K : AH → Prop)  (x0 : Nat) (x1 : Nat) : Nat → Int32 → AH → Prop
  | 0 => fun _ _ => False
  | n + 1 => fun x2 h =>
  (isO h x0 5) ∧ ((mI h x0 3 ≤ x2 → K h) ∧ (¬ mI h x0 3 ≤ x2 → (∃ n22, wX7_relateConflicts_L20 K (fun x0_18 x1_19 x2_20 h21 => wX7_relateConflicts_L10 K  x0 x1 n x0_18 x1_19 (x2_20 + 1) h21) x0 x1 x2 n22 0 h)))
def wX7_relateConflicts (a0 : Nat) (a1 : Nat) (h : AH) (K : AH → Prop) : Prop :=
  (isO h a0 5) ∧ (isO h a1 4) ∧ wX6_begin a1 (mI h a0 3) h (fun h2 => (∃ n23, wX7_relateConflicts_L10 K a0 a1 n23 0 h2))
def wX6_takeOrLeave_b (rec : Nat → Int32 → Int32 → AH → (Int32 → AH → Prop) → Prop) (a0 : Nat) (a1 : Int32) (a2 : Int32) (h : AH) (K : Int32 → AH → Prop) : Prop :=
  (isO h a0 4) ∧ ((a1 < mI h a0 0 → rec a0 (a1 + 1) a2 h (fun r4 h3 => (isO h3 a0 4) ∧ (isA h3 (mR h3 a0 1) 0) ∧ (vp_in a1 (ln h3 (mR h3 a0 1))) ∧ ((¬ (mI h3 (mR h3 a0 1) a1.toNatClampNeg &&& a2) = 0 → K r4 h3) ∧ ((mI h3 (mR h3 a0 1) a1.toNatClampNeg &&& a2) = 0 → rec a0 (a1 + 1) (a2 ||| (1 <<< (a1 &&& 31))) h3 (fun r10 h9 => ∀ v11 : Int32, v11 = (if r4 < (1 + r10) then (1 + r10) else r4) → K v11 h9))))) ∧ (¬ a1 < mI h a0 0 → K 0 h))
def wX6_takeOrLeave : Nat → Nat → Int32 → Int32 → AH → (Int32 → AH → Prop) → Prop
  | 0 => fun _ _ _ _ _ => False
  | d + 1 => wX6_takeOrLeave_b (wX6_takeOrLeave d)
def wX6_mostUnrelated (a0 : Nat) (h : AH) (K : Int32 → AH → Prop) : Prop :=
  wX6_takeOrLeave 10 a0 0 0 h (fun r2 h1 => K r2 h1)
def wX9_mostWithoutConflict (a0 : Nat) (h : AH) (K : Int32 → AH → Prop) : Prop :=
  (isO h a0 0) ∧ (isO h (mR h a0 0) 5) ∧ wX7_relateConflicts (mR h a0 0) (mR h a0 4) h (fun h2 => (isO h2 a0 0) ∧ (isO h2 (mR h2 a0 4) 4) ∧ wX6_mostUnrelated (mR h2 a0 4) h2 (fun r6 h5 => K r6 h5))
def wX6_isUnrelated_L2 (K : Int32 → AH → Prop)  (x0 : Nat) (x1 : Int32) : Nat → Int32 → AH → Prop
  | 0 => fun _ _ => False
  | n + 1 => fun x2 h =>
  (isO h x0 4) ∧ ((mI h x0 0 ≤ x2 → K 1 h) ∧ (¬ mI h x0 0 ≤ x2 → wX9_contains x1 x2 h (fun r4 h3 => ((r4 = 0 → wX6_isUnrelated_L2 K  x0 x1 n x0 x1 (x2 + 1) h3) ∧ (¬ r4 = 0 → (isO h3 x0 4) ∧ (isA h3 (mR h3 x0 1) 0) ∧ (vp_in x2 (ln h3 (mR h3 x0 1))) ∧ (((mI h3 (mR h3 x0 1) x2.toNatClampNeg &&& x1) = 0 → wX6_isUnrelated_L2 K  x0 x1 n x0 x1 (x2 + 1) h3) ∧ (¬ (mI h3 (mR h3 x0 1) x2.toNatClampNeg &&& x1) = 0 → K 0 h3)))))))
def wX6_isUnrelated (a0 : Nat) (a1 : Int32) (h : AH) (K : Int32 → AH → Prop) : Prop :=
  (∃ n10, wX6_isUnrelated_L2 K a0 a1 n10 0 h)
def wX6_mostUnrelatedBySets_L4 (K : Int32 → AH → Prop)  (x0 : Nat) : Nat → Int32 → Int32 → AH → Prop
  | 0 => fun _ _ _ => False
  | n + 1 => fun x1 x2 h =>
  (isO h x0 4) ∧ (((1 <<< (mI h x0 0 &&& 31)) ≤ x2 → K x1 h) ∧ (¬ (1 <<< (mI h x0 0 &&& 31)) ≤ x2 → wX6_isUnrelated x0 x2 h (fun r4 h3 => ((r4 = 0 → wX6_mostUnrelatedBySets_L4 K  x0 n x0 x1 (x2 + 1) h3) ∧ (¬ r4 = 0 → wJ6_bitCount_0f7a4 x2 h3 (fun r7 h6 => wX6_mostUnrelatedBySets_L4 K  x0 n x0 (if x1 < r7 then r7 else x1) (x2 + 1) h6))))))
def wX6_mostUnrelatedBySets (a0 : Nat) (h : AH) (K : Int32 → AH → Prop) : Prop :=
  (∃ n8, wX6_mostUnrelatedBySets_L4 K a0 n8 0 0 h)
def wX9_mostWithoutConflictBySets (a0 : Nat) (h : AH) (K : Int32 → AH → Prop) : Prop :=
  (isO h a0 0) ∧ (isO h (mR h a0 0) 5) ∧ wX7_relateConflicts (mR h a0 0) (mR h a0 4) h (fun h2 => (isO h2 a0 0) ∧ (isO h2 (mR h2 a0 4) 4) ∧ wX6_mostUnrelatedBySets (mR h2 a0 4) h2 (fun r6 h5 => K r6 h5))
def wX9_refusalReason (a0 : Nat) (h : AH) (K : Int32 → AH → Prop) (T : String → AH → Prop) : Prop :=
  (isO h a0 0) ∧ ((¬ mI h a0 8 = 0 → (narrow .char (.int (mI h a0 8)) = .int (mI h a0 8)) ∧ K (mI h a0 8) h) ∧ (mI h a0 8 = 0 → T "java/util/NoSuchElementException" h))
def wX9_refusalBlock (a0 : Nat) (h : AH) (K : Int32 → AH → Prop) (T : String → AH → Prop) : Prop :=
  (isO h a0 0) ∧ ((¬ mI h a0 9 = (-1) → K (mI h a0 9) h) ∧ (mI h a0 9 = (-1) → T "java/util/NoSuchElementException" h))
def wX9_time (a0 : Nat) (h : AH) (K : Int32 → AH → Prop) : Prop :=
  (isO h a0 0) ∧ (isO h (mR h a0 0) 5) ∧ K (mI h (mR h a0 0) 7) h
def wX9_arrived (a0 : Nat) (h : AH) (K : Int32 → AH → Prop) : Prop :=
  (isO h a0 0) ∧ (isO h (mR h a0 0) 5) ∧ K (mI h (mR h a0 0) 6) h
def wX9_totalDelay (a0 : Nat) (h : AH) (K : Int64 → AH → Prop) : Prop :=
  (isO h a0 0) ∧ (isO h (mR h a0 0) 5) ∧ K (mL h (mR h a0 0) 8) h
def wX9_meanDelay (a0 : Nat) (h : AH) (K : UInt64 → AH → Prop) (T : String → AH → Prop) : Prop :=
  (isO h a0 0) ∧ (isO h (mR h a0 0) 5) ∧ ((¬ mI h (mR h a0 0) 5 = 0 → (vf_n64 (FP.ddiv (FP.l2d (mL h (mR h a0 0) 8)) (FP.i2d (mI h (mR h a0 0) 5)))) ∧ K (FP.ddiv (FP.l2d (mL h (mR h a0 0) 8)) (FP.i2d (mI h (mR h a0 0) 5))) h) ∧ (mI h (mR h a0 0) 5 = 0 → T "java/lang/ArithmeticException" h))
def wX9_usedShare (a0 : Nat) (h : AH) (K : UInt32 → AH → Prop) (T : String → AH → Prop) : Prop :=
  (isO h a0 0) ∧ (isO h (mR h a0 0) 5) ∧ (isO h (mR h (mR h a0 0) 0) 2) ∧ ((¬ mI h (mR h (mR h a0 0) 0) 0 = 0 → wX7_held (mR h a0 0) h (fun r6 h5 => wJ6_bitCount_0f7a4 r6 h5 (fun r8 h7 => (isO h7 a0 0) ∧ (isO h7 (mR h7 a0 0) 5) ∧ (isO h7 (mR h7 (mR h7 a0 0) 0) 2) ∧ (vf_n32 (FP.fdiv (FP.i2f r8) (FP.i2f (mI h7 (mR h7 (mR h7 a0 0) 0) 0)))) ∧ K (FP.fdiv (FP.i2f r8) (FP.i2f (mI h7 (mR h7 (mR h7 a0 0) 0) 0))) h7))) ∧ (mI h (mR h (mR h a0 0) 0) 0 = 0 → T "java/lang/ArithmeticException" h))
def wX3_lineIsSound_L4 (K : Int32 → AH → Prop) (c66 : Nat → Int32 → AH → Prop) (x0 : Nat) : Nat → Int32 → Int32 → AH → Prop
  | 0 => fun _ _ _ => False
  | n + 1 => fun x1 x2 h =>
  (isO h x0 2) ∧ ((mI h x0 0 ≤ x2 → c66 x0 x1 h) ∧ (¬ mI h x0 0 ≤ x2 → wX4_leadsTo x0 x2 x2 h (fun r4 h3 => (isO h3 x0 2) ∧ wX4_lengthOf x0 x2 h3 (fun r6 h5 => ((r6 < 1 → K 0 h5) ∧ (¬ r6 < 1 → (isO h5 x0 2) ∧ wX4_lengthOf x0 x2 h5 (fun r9 h8 => ((9 < r9 → K 0 h8) ∧ (¬ 9 < r9 → ((r4 = 0 → (isO h8 x0 2) ∧ wX4_hasExit x0 x2 h8 (fun r13 h12 => ((r13 = 0 → wX3_lineIsSound_L4 K c66 x0 n x0 (x1 + 0) (x2 + 1) h12) ∧ (¬ r13 = 0 → wX3_lineIsSound_L4 K c66 x0 n x0 (x1 + 1) (x2 + 1) h12)))) ∧ (¬ r4 = 0 → K 0 h8)))))))))))
def wX3_lineIsSound_L70 (K : Int32 → AH → Prop)  (x0 : Nat) (x1 : Int32) : Nat → Int32 → Int32 → AH → Prop
  | 0 => fun _ _ _ => False
  | n + 1 => fun x2 x3 h =>
  (isO h x0 2) ∧ ((mI h x0 1 ≤ x3 → ((¬ x1 = (mI h x0 1 + mI h x0 2) → K 0 h) ∧ (x1 = (mI h x0 1 + mI h x0 2) → ((¬ (mI h x0 4 &&& (x2 ^^^ (-1))) = 0 → K 0 h) ∧ ((mI h x0 4 &&& (x2 ^^^ (-1))) = 0 → ((¬ (mI h x0 3 &&& (((1 <<< (mI h x0 0 &&& 31)) - 1) ^^^ (-1))) = 0 → K 0 h) ∧ ((mI h x0 3 &&& (((1 <<< (mI h x0 0 &&& 31)) - 1) ^^^ (-1))) = 0 → K 1 h))))))) ∧ (¬ mI h x0 1 ≤ x3 → wX4_stemOf x0 x3 h (fun r27 h26 => (isO h26 x0 2) ∧ wX4_isStem x0 r27 h26 (fun r29 h28 => ((r29 = 0 → K 0 h28) ∧ (¬ r29 = 0 → wX9_contains x2 r27 h28 (fun r32 h31 => ((r32 = 0 → wX3_lineIsSound_L70 K  x0 x1 n x0 x1 (x2 ||| (1 <<< (r27 &&& 31))) (x3 + 1) h31) ∧ (¬ r32 = 0 → K 0 h31)))))))))
def wX3_lineIsSound (a0 : Nat) (h : AH) (K : Int32 → AH → Prop) : Prop :=
  (∃ n36, wX3_lineIsSound_L4 K (fun x0_18 x1_19 h20 => (∃ n35, wX3_lineIsSound_L70 K x0_18 x1_19 n35 0 0 h20)) a0 n36 0 0 h)
def wX3_trainsAreSound_J73 (K : Int32 → AH → Prop) (c7 : Nat → Int64 → Int32 → Int32 → AH → Prop) (x0 : Nat) (x1 : Int64) (x3 : Int32) (x4 : Int32) (x5 : Nat) (y0 : Int32) (h : AH) : Prop :=
  ((y0 = 0 → K 0 h) ∧ (¬ y0 = 0 → (isO h x5 6) ∧ ((mI h x5 0 ≤ x3 → K 0 h) ∧ (¬ mI h x5 0 ≤ x3 → ((0 ≤ mI h x5 5 → c7 x0 (x1 + (mI h x5 5).toInt64) (mI h x5 0) (x4 + 1) h) ∧ (¬ 0 ≤ mI h x5 5 → K 0 h))))))
def wX3_trainsAreSound_J72 (K : Int32 → AH → Prop) (c7 : Nat → Int64 → Int32 → Int32 → AH → Prop) (x0 : Nat) (x1 : Int64) (x3 : Int32) (x4 : Int32) (x5 : Nat) (h : AH) : Prop :=
  (wX3_trainsAreSound_J73 K c7 x0 x1 x3 x4 x5 0 h)
def wX3_trainsAreSound_L7 (K : Int32 → AH → Prop)  (x0 : Nat) : Nat → Int64 → Int32 → Int32 → AH → Prop
  | 0 => fun _ _ _ _ => False
  | n + 1 => fun x1 x3 x4 h =>
  (isO h x0 5) ∧ ((mI h x0 3 ≤ x4 → ((mI h x0 5 ≤ x3 → K 0 h) ∧ (¬ mI h x0 5 ≤ x3 → ((¬ (mI h x0 3 + mI h x0 6) = mI h x0 5 → K 0 h) ∧ ((mI h x0 3 + mI h x0 6) = mI h x0 5 → ((0 < (lg_cmp x1 (mL h x0 8)) → K 0 h) ∧ (¬ 0 < (lg_cmp x1 (mL h x0 8)) → K 1 h))))))) ∧ (¬ mI h x0 3 ≤ x4 → (isA h (mR h x0 1) 6) ∧ (vp_in x4 (ln h (mR h x0 1))) ∧ (isO h (mR h (mR h x0 1) x4.toNatClampNeg) 6) ∧ (isO h (mR h x0 0) 2) ∧ wX4_has (mR h x0 0) (mI h (mR h (mR h x0 1) x4.toNatClampNeg) 1) h (fun r10 h9 => ((r10 = 0 → (wX3_trainsAreSound_J72 K (wX3_trainsAreSound_L7 K  x0 n) x0 x1 x3 x4 (mR h (mR h x0 1) x4.toNatClampNeg) h9)) ∧ (¬ r10 = 0 → (isO h9 x0 5) ∧ (isO h9 (mR h (mR h x0 1) x4.toNatClampNeg) 6) ∧ (isO h9 (mR h9 x0 0) 2) ∧ wX4_has (mR h9 x0 0) (mI h9 (mR h (mR h x0 1) x4.toNatClampNeg) 2) h9 (fun r19 h18 => ((r19 = 0 → (wX3_trainsAreSound_J72 K (wX3_trainsAreSound_L7 K  x0 n) x0 x1 x3 x4 (mR h (mR h x0 1) x4.toNatClampNeg) h18)) ∧ (¬ r19 = 0 → (isO h18 (mR h (mR h x0 1) x4.toNatClampNeg) 6) ∧ ((mI h18 (mR h (mR h x0 1) x4.toNatClampNeg) 1 = mI h18 (mR h (mR h x0 1) x4.toNatClampNeg) 2 → (wX3_trainsAreSound_J72 K (wX3_trainsAreSound_L7 K  x0 n) x0 x1 x3 x4 (mR h (mR h x0 1) x4.toNatClampNeg) h18)) ∧ (¬ mI h18 (mR h (mR h x0 1) x4.toNatClampNeg) 1 = mI h18 (mR h (mR h x0 1) x4.toNatClampNeg) 2 → (wX3_trainsAreSound_J73 K (wX3_trainsAreSound_L7 K  x0 n) x0 x1 x3 x4 (mR h (mR h x0 1) x4.toNatClampNeg) 1 h18)))))))))))
def wX3_trainsAreSound (a0 : Nat) (h : AH) (K : Int32 → AH → Prop) : Prop :=
  (∃ n25, wX3_trainsAreSound_L7 K a0 n25 0 (-1) 0 h)
def wX3_blocksAreHeldOnce_L4 (K : Int32 → AH → Prop)  (x0 : Nat) : Nat → Int32 → Int32 → AH → Prop
  | 0 => fun _ _ _ => False
  | n + 1 => fun x1 x2 h =>
  (isO h x0 5) ∧ ((mI h x0 3 ≤ x2 → K 1 h) ∧ (¬ mI h x0 3 ≤ x2 → (isA h (mR h x0 1) 6) ∧ (vp_in x2 (ln h (mR h x0 1))) ∧ (isO h (mR h (mR h x0 1) x2.toNatClampNeg) 6) ∧ wX9_contains (mI h (mR h (mR h x0 1) x2.toNatClampNeg) 3) (mI h (mR h (mR h x0 1) x2.toNatClampNeg) 1) h (fun r7 h6 => (isO h6 (mR h (mR h x0 1) x2.toNatClampNeg) 6) ∧ wX8_held (mR h (mR h x0 1) x2.toNatClampNeg) h6 (fun r9 h8 => ((¬ (x1 &&& r9) = 0 → K 0 h8) ∧ ((x1 &&& r9) = 0 → (isO h8 x0 5) ∧ (isO h8 (mR h8 x0 0) 2) ∧ (isO h8 (mR h (mR h x0 1) x2.toNatClampNeg) 6) ∧ ((¬ (mI h8 (mR h8 x0 0) 3 &&& mI h8 (mR h (mR h x0 1) x2.toNatClampNeg) 3) = 0 → K 0 h8) ∧ ((mI h8 (mR h8 x0 0) 3 &&& mI h8 (mR h (mR h x0 1) x2.toNatClampNeg) 3) = 0 → ((r7 = 0 → wX8_held (mR h (mR h x0 1) x2.toNatClampNeg) h8 (fun r17 h16 => wX3_blocksAreHeldOnce_L4 K  x0 n x0 (x1 ||| r17) (x2 + 1) h16)) ∧ (¬ r7 = 0 → K 0 h8))))))))))
def wX3_blocksAreHeldOnce (a0 : Nat) (h : AH) (K : Int32 → AH → Prop) : Prop :=
  (∃ n19, wX3_blocksAreHeldOnce_L4 K a0 n19 0 0 h)
def wX3_blocksAhead_L10 (K : Int32 → AH → Prop)  (x0 : Nat) (x1 : Nat) : Nat → Int32 → Int32 → Int32 → AH → Prop
  | 0 => fun _ _ _ _ => False
  | n + 1 => fun x2 x3 x4 h =>
  ((12 ≤ x4 → K x2 h) ∧ (¬ 12 ≤ x4 → (isO h x0 2) ∧ wX4_has x0 x3 h (fun r4 h3 => ((r4 = 0 → K x2 h3) ∧ (¬ r4 = 0 → (isO h3 x1 6) ∧ ((x3 = mI h3 x1 2 → K x2 h3) ∧ (¬ x3 = mI h3 x1 2 → (isO h3 x0 2) ∧ wX4_exitOf x0 x3 h3 (fun r9 h8 => wX3_blocksAhead_L10 K  x0 x1 n x0 x1 (x2 ||| (1 <<< (r9 &&& 31))) r9 (x4 + 1) h8))))))))
def wX3_blocksAhead (a0 : Nat) (a1 : Nat) (h : AH) (K : Int32 → AH → Prop) : Prop :=
  (isO h a1 6) ∧ (∃ n12, wX3_blocksAhead_L10 K a0 a1 n12 0 (mI h a1 1) 0 h)
def wX3_routesAreSound_J67 (K : Int32 → AH → Prop) (c2 : Nat → Int32 → AH → Prop) (x0 : Nat) (x1 : Int32) (x2 : Nat) (x3 : Int32) (x4 : Int32) (y0 : Int32) (h : AH) : Prop :=
  (isO h x2 6) ∧ wX8_isRouted x2 h (fun r18 h17 => ((r18 = 0 → c2 x0 (x1 + 1) h17) ∧ (¬ r18 = 0 → ((y0 = 0 → K 0 h17) ∧ (¬ y0 = 0 → ((x3 < 1 → K 0 h17) ∧ (¬ x3 < 1 → ((x3 ≤ x4 → c2 x0 (x1 + 1) h17) ∧ (¬ x3 ≤ x4 → K 0 h17)))))))))
def wX3_routesAreSound_L2 (K : Int32 → AH → Prop)  (x0 : Nat) : Nat → Int32 → AH → Prop
  | 0 => fun _ _ => False
  | n + 1 => fun x1 h =>
  (isO h x0 5) ∧ ((mI h x0 3 ≤ x1 → K 1 h) ∧ (¬ mI h x0 3 ≤ x1 → (isA h (mR h x0 1) 6) ∧ (vp_in x1 (ln h (mR h x0 1))) ∧ (isO h (mR h (mR h x0 1) x1.toNatClampNeg) 6) ∧ ∀ v6 : Int32, v6 = (mI h (mR h (mR h x0 1) x1.toNatClampNeg) 4 - mI h x0 7) → (isO h (mR h x0 0) 2) ∧ wX4_exitOf (mR h x0 0) (mI h (mR h (mR h x0 1) x1.toNatClampNeg) 1) h (fun r9 h8 => (isO h8 (mR h x0 0) 2) ∧ wX4_lengthOf (mR h x0 0) r9 h8 (fun r11 h10 => (isO h10 x0 5) ∧ wX3_blocksAhead (mR h10 x0 0) (mR h (mR h x0 1) x1.toNatClampNeg) h10 (fun r14 h13 => (isO h13 (mR h (mR h x0 1) x1.toNatClampNeg) 6) ∧ ((¬ r14 = mI h13 (mR h (mR h x0 1) x1.toNatClampNeg) 3 → (wX3_routesAreSound_J67 K (wX3_routesAreSound_L2 K  x0 n) x0 x1 (mR h (mR h x0 1) x1.toNatClampNeg) v6 r11 0 h13)) ∧ (r14 = mI h13 (mR h (mR h x0 1) x1.toNatClampNeg) 3 → (wX3_routesAreSound_J67 K (wX3_routesAreSound_L2 K  x0 n) x0 x1 (mR h (mR h x0 1) x1.toNatClampNeg) v6 r11 1 h13))))))))
def wX3_routesAreSound (a0 : Nat) (h : AH) (K : Int32 → AH → Prop) : Prop :=
  (∃ n26, wX3_routesAreSound_L2 K a0 n26 0 h)
def wX3_queueIsSound_L4 (K : Int32 → AH → Prop) (c38 : Nat → Int32 → AH → Prop) (x0 : Nat) : Nat → Int32 → Int32 → AH → Prop
  | 0 => fun _ _ _ => False
  | n + 1 => fun x1 x2 h =>
  (isO h x0 5) ∧ ((mI h x0 3 ≤ x2 → c38 x0 x1 h) ∧ (¬ mI h x0 3 ≤ x2 → (isA h (mR h x0 1) 6) ∧ (vp_in x2 (ln h (mR h x0 1))) ∧ (isO h (mR h (mR h x0 1) x2.toNatClampNeg) 6) ∧ wX8_isRouted (mR h (mR h x0 1) x2.toNatClampNeg) h (fun r6 h5 => ((r6 = 0 → wX3_queueIsSound_L4 K c38 x0 n x0 (x1 + 0) (x2 + 1) h5) ∧ (¬ r6 = 0 → wX3_queueIsSound_L4 K c38 x0 n x0 (x1 + 1) (x2 + 1) h5)))))
def wX3_queueIsSound_L74 (K : Int32 → AH → Prop) (c102 : Nat → Int32 → Int32 → AH → Prop) (x0 : Nat) (x1 : Int32) (x2 : Int32) : Nat → Int32 → AH → Prop
  | 0 => fun _ _ => False
  | n + 1 => fun x4 h =>
  ((x2 ≤ x4 → c102 x0 x1 x2 h) ∧ (¬ x2 ≤ x4 → (isO h x0 5) ∧ wX7_inQueue x0 x4 h (fun r25 h24 => (isO h24 x0 5) ∧ wX7_inQueue x0 x2 h24 (fun r27 h26 => ((¬ r25 = r27 → wX3_queueIsSound_L74 K c102 x0 x1 x2 n x0 x1 x2 (x4 + 1) h26) ∧ (r25 = r27 → K 0 h26))))))
def wX3_queueIsSound_L40 (K : Int32 → AH → Prop)  (x0 : Nat) (x1 : Int32) : Nat → Int32 → AH → Prop
  | 0 => fun _ _ => False
  | n + 1 => fun x2 h =>
  (isO h x0 5) ∧ ((mI h x0 4 ≤ x2 → ((¬ (x1 + mI h x0 4) = mI h x0 3 → K 0 h) ∧ ((x1 + mI h x0 4) = mI h x0 3 → K 1 h))) ∧ (¬ mI h x0 4 ≤ x2 → wX7_inQueue x0 x2 h (fun r16 h15 => (isO h15 x0 5) ∧ wX7_find x0 r16 h15 (fun r18 h17 => ((r18 = 0 → K 0 h17) ∧ (¬ r18 = 0 → (isO h17 r18 6) ∧ wX8_isRouted r18 h17 (fun r21 h20 => ((r21 = 0 → (∃ n35, wX3_queueIsSound_L74 K (fun x0_31 x1_32 x2_33 h34 => wX3_queueIsSound_L40 K  x0 x1 n x0_31 x1_32 (x2_33 + 1) h34) x0 x1 x2 n35 0 h20)) ∧ (¬ r21 = 0 → K 0 h20)))))))))
def wX3_queueIsSound (a0 : Nat) (h : AH) (K : Int32 → AH → Prop) : Prop :=
  (∃ n39, wX3_queueIsSound_L4 K (fun x0_9 x1_10 h11 => (∃ n38, wX3_queueIsSound_L40 K x0_9 x1_10 n38 0 h11)) a0 n39 0 0 h)
def wX3_hold (a0 : Nat) (h : AH) (K : Int32 → AH → Prop) : Prop :=
  (isO h a0 5) ∧ wX3_lineIsSound (mR h a0 0) h (fun r3 h2 => ((r3 = 0 → K 0 h2) ∧ (¬ r3 = 0 → wX3_trainsAreSound a0 h2 (fun r6 h5 => ((r6 = 0 → K 0 h5) ∧ (¬ r6 = 0 → wX3_blocksAreHeldOnce a0 h5 (fun r9 h8 => ((r9 = 0 → K 0 h8) ∧ (¬ r9 = 0 → wX3_routesAreSound a0 h8 (fun r12 h11 => ((r12 = 0 → K 0 h11) ∧ (¬ r12 = 0 → wX3_queueIsSound a0 h11 (fun r15 h14 => ((r15 = 0 → K 0 h14) ∧ (¬ r15 = 0 → K 1 h14)))))))))))))))
def wX9_isConsistent (a0 : Nat) (h : AH) (K : Int32 → AH → Prop) : Prop :=
  (isO h a0 0) ∧ wX3_hold (mR h a0 0) h (fun r3 h2 => (narrow .boolean (.int r3) = .int r3) ∧ K r3 h2)
def wJx7c733_init_d00df (a0 : Nat) (a1 : Int32) (h : AH) (K : AH → Prop) (T : String → AH → Prop) : Prop :=
  ∀ h1, h1 = nw h 9 0 → (¬ mN h = 0) ∧ wJ4_init_da8c8 (mN h) h1 (fun h2 => False) T
def wJx00060_init_d00df (a0 : Nat) (a1 : Int32) (h : AH) (K : AH → Prop) (T : String → AH → Prop) : Prop :=
  ∀ h1, h1 = nw h 9 0 → (¬ mN h = 0) ∧ wJ4_init_da8c8 (mN h) h1 (fun h2 => False) T
def wJ7_rangeCheck_23922 (a0 : Int32) (a1 : Int32) (a2 : Int32) (h : AH) (K : AH → Prop) (T : String → AH → Prop) : Prop :=
  ((a1 ≤ a2 → ((0 ≤ a1 → ((a2 ≤ a0 → K h) ∧ (¬ a2 ≤ a0 → False))) ∧ (¬ 0 ≤ a1 → False))) ∧ (¬ a1 ≤ a2 → False))
def wJ7_fill_eb02e_L10 (K : AH → Prop) (T : String → AH → Prop)  (x0 : Nat) (x2 : Int32) (x3 : Int32) : Nat → Int32 → AH → Prop
  | 0 => fun _ _ => False
  | n + 1 => fun x4 h =>
  ((x2 ≤ x4 → K h) ∧ (¬ x2 ≤ x4 → (isA h x0 3) ∧ (nZ ≤ x0) ∧ (vp_in x4 (ln h x0)) ∧ ∀ h8, h8 = uI h x0 x4.toNatClampNeg (vp_nar .byte x3) → wJ7_fill_eb02e_L10 K T  x0 x2 x3 n x0 x2 x3 (x4 + 1) h8))
def wJ7_fill_eb02e (a0 : Nat) (a1 : Int32) (a2 : Int32) (a3 : Int32) (h : AH) (K : AH → Prop) (T : String → AH → Prop) : Prop :=
  (isA h a0 3) ∧ wJ7_rangeCheck_23922 (nI (ln h a0)) a1 a2 h (fun h2 => (∃ n9, wJ7_fill_eb02e_L10 K T a0 a2 a3 n9 a1 h2)) T
def wJ1_fillNull_b72d1 (a0 : Nat) (a1 : Int32) (a2 : Int32) (h : AH) (K : AH → Prop) (T : String → AH → Prop) : Prop :=
  wJ7_fill_eb02e a0 a1 a2 0 h (fun h1 => K h1) T
def wJ2_fillNull_b72d1 (a0 : Nat) (a1 : Int32) (a2 : Int32) (h : AH) (K : AH → Prop) (T : String → AH → Prop) : Prop :=
  wJ7_fill_eb02e a0 (a1 <<< (1 &&& 31)) (a2 <<< (1 &&& 31)) 0 h (fun h1 => K h1) T
def wJ5_setLength_d00df_J76 (K : AH → Prop) (T : String → AH → Prop)  (x0 : Nat) (x1 : Int32) (h : AH) : Prop :=
  (isO h x0 8) ∧ ∀ h8, h8 = uI h x0 3 x1 → K h8
def wJ5_setLength_d00df (a0 : Nat) (a1 : Int32) (h : AH) (K : AH → Prop) (T : String → AH → Prop) : Prop :=
  ((0 ≤ a1 → (isO h a0 8) ∧ wJ5_ensureCapacityInternal_d00df a0 a1 h (fun h2 => (isO h2 a0 8) ∧ ((a1 ≤ mI h2 a0 3 → ((mI h2 a0 3 ≤ a1 → (wJ5_setLength_d00df_J76 K T a0 a1 h2)) ∧ (¬ mI h2 a0 3 ≤ a1 → ∀ h9, h9 = uI h2 a0 2 1 → (wJ5_setLength_d00df_J76 K T a0 a1 h9)))) ∧ (¬ a1 ≤ mI h2 a0 3 → wJ5_isLatin1_aae02 a0 h2 (fun r11 h10 => ((r11 = 0 → (isO h10 a0 8) ∧ wJ2_fillNull_b72d1 (mR h10 a0 0) (mI h10 a0 3) a1 h10 (fun h14 => (wJ5_setLength_d00df_J76 K T a0 a1 h14)) T) ∧ (¬ r11 = 0 → (isO h10 a0 8) ∧ wJ1_fillNull_b72d1 (mR h10 a0 0) (mI h10 a0 3) a1 h10 (fun h17 => (wJ5_setLength_d00df_J76 K T a0 a1 h17)) T)))))) T) ∧ (¬ 0 ≤ a1 → False))
def wJ4_setLength_d00df (a0 : Nat) (a1 : Int32) (h : AH) (K : AH → Prop) (T : String → AH → Prop) : Prop :=
  (isO h a0 8) ∧ wJ5_setLength_d00df a0 a1 h (fun h1 => K h1) T
def wJ1_canEncode_fc78d (a0 : Int32) (h : AH) (K : Int32 → AH → Prop) : Prop :=
  ((255 < a0 → K 0 h) ∧ (¬ 255 < a0 → K 1 h))
def wJ3_checkIndex_8e157_J9 (K : Int32 → AH → Prop)  (x0 : Int32) (x1 : Int32) (x2 : Nat) (h : AH) : Prop :=
  False
def wJ3_checkIndex_8e157 (a0 : Int32) (a1 : Int32) (a2 : Nat) (h : AH) (K : Int32 → AH → Prop) : Prop :=
  ((a0 < 0 → (wJ3_checkIndex_8e157_J9 K a0 a1 a2 h)) ∧ (¬ a0 < 0 → ((a0 < a1 → K a0 h) ∧ (¬ a0 < a1 → (wJ3_checkIndex_8e157_J9 K a0 a1 a2 h)))))
def wJ0_checkIndex_df160 (a0 : Int32) (a1 : Int32) (h : AH) (K : AH → Prop) : Prop :=
  False
def wJ2_checkIndex_2214a (a0 : Int32) (a1 : Nat) (h : AH) (K : AH → Prop) : Prop :=
  wJ2_length_9d52b a1 h (fun r2 h1 => wJ0_checkIndex_df160 a0 r2 h1 (fun h3 => K h3))
def wJ2_putCharSB_b72d1 (a0 : Nat) (a1 : Int32) (a2 : Int32) (h : AH) (K : AH → Prop) : Prop :=
  wJ2_checkIndex_2214a a1 a0 h (fun h1 => wJ2_putChar_b72d1 a0 a1 a2 h1 (fun h3 => K h3))
def wJ5_append_3fe6f_J56 (K : Nat → AH → Prop) (T : String → AH → Prop)  (x0 : Nat) (x1 : Int32) (h : AH) : Prop :=
  (isO h x0 8) ∧ ∀ h11, h11 = uI h x0 3 (mI h x0 3 + 1) → wJ2_putCharSB_b72d1 (mR h x0 0) (mI h x0 3) x1 h11 (fun h12 => K x0 h12)
def wJ5_append_3fe6f_J45 (K : Nat → AH → Prop) (T : String → AH → Prop)  (x0 : Nat) (x1 : Int32) (h : AH) : Prop :=
  (isO h x0 8) ∧ wJ5_isLatin1_aae02 x0 h (fun r8 h7 => ((r8 = 0 → (wJ5_append_3fe6f_J56 K T x0 x1 h7)) ∧ (¬ r8 = 0 → False)))
def wJ5_append_3fe6f (a0 : Nat) (a1 : Int32) (h : AH) (K : Nat → AH → Prop) (T : String → AH → Prop) : Prop :=
  (isO h a0 8) ∧ wJ5_ensureCapacityInternal_d00df a0 (mI h a0 3 + 1) h (fun h2 => (isO h2 a0 8) ∧ wJ5_isLatin1_aae02 a0 h2 (fun r5 h4 => ((r5 = 0 → (wJ5_append_3fe6f_J45 K T a0 a1 h4)) ∧ (¬ r5 = 0 → wJ1_canEncode_fc78d a1 h4 (fun r18 h17 => ((r18 = 0 → (wJ5_append_3fe6f_J45 K T a0 a1 h17)) ∧ (¬ r18 = 0 → (isO h17 a0 8) ∧ ∀ h21, h21 = uI h17 a0 3 (mI h17 a0 3 + 1) → (isA h17 (mR h17 a0 0) 3) ∧ (nZ ≤ (mR h17 a0 0)) ∧ (vp_in (mI h17 a0 3) (ln h17 (mR h17 a0 0))) ∧ ∀ h25, h25 = uI h21 (mR h17 a0 0) (mI h17 a0 3).toNatClampNeg (vp_nar .byte a1.toInt8.toInt32) → K a0 h25))))))) T
def wJ4_append_cf468 (a0 : Nat) (a1 : Int32) (h : AH) (K : Nat → AH → Prop) (T : String → AH → Prop) : Prop :=
  (isO h a0 8) ∧ wJ5_append_3fe6f a0 a1 h (fun r2 h1 => K a0 h1) T
def wJ4_length_8abf5 (a0 : Nat) (h : AH) (K : Int32 → AH → Prop) : Prop :=
  (isO h a0 8) ∧ wJ5_length_8abf5 a0 h (fun r2 h1 => K r2 h1)
def wX9_writeBlocks_J54 (K : Int32 → AH → Prop) (T : String → AH → Prop) (c10 : Nat → Int32 → AH → Prop) (x0 : Nat) (x1 : Int32) (h : AH) : Prop :=
  (isO h x0 0) ∧ (isO h (mR h x0 0) 5) ∧ wX7_holderOf (mR h x0 0) x1 h (fun r19 h18 => (isO h18 (mR h x0 6) 8) ∧ wJ4_append_bf812 (mR h x0 6) r19 h18 (fun r21 h20 => c10 x0 (x1 + 1) h20))
def wX9_writeBlocks_L10 (K : Int32 → AH → Prop) (T : String → AH → Prop)  (x0 : Nat) : Nat → Int32 → AH → Prop
  | 0 => fun _ _ => False
  | n + 1 => fun x1 h =>
  (isO h x0 0) ∧ (isO h (mR h x0 0) 5) ∧ (isO h (mR h (mR h x0 0) 0) 2) ∧ ((mI h (mR h (mR h x0 0) 0) 0 ≤ x1 → (isO h (mR h x0 6) 8) ∧ wJ4_length_8abf5 (mR h x0 6) h (fun r9 h8 => K r9 h8)) ∧ (¬ mI h (mR h (mR h x0 0) 0) 0 ≤ x1 → wX7_stateOf (mR h x0 0) x1 h (fun r12 h11 => (isO h11 x0 0) ∧ (isO h11 (mR h11 x0 6) 8) ∧ wJ4_append_cf468 (mR h11 x0 6) r12 h11 (fun r15 h14 => ((r12 = 111 → (wX9_writeBlocks_J54 K T (wX9_writeBlocks_L10 K T  x0 n) x0 x1 h14)) ∧ (¬ r12 = 111 → ((¬ r12 = 114 → wX9_writeBlocks_L10 K T  x0 n x0 (x1 + 1) h14) ∧ (r12 = 114 → (wX9_writeBlocks_J54 K T (wX9_writeBlocks_L10 K T  x0 n) x0 x1 h14)))))) T)))
def wX9_writeBlocks (a0 : Nat) (h : AH) (K : Int32 → AH → Prop) (T : String → AH → Prop) : Prop :=
  (isO h a0 0) ∧ (isO h (mR h a0 6) 8) ∧ wJ4_setLength_d00df (mR h a0 6) 0 h (fun h2 => (∃ n26, n26 ≤ 13 ∧ wX9_writeBlocks_L10 K T a0 n26 0 h2)) T
def wX9_writeRestOfRoute_L7 (K : AH → Prop) (T : String → AH → Prop)  (x0 : Nat) (x1 : Nat) : Nat → Int32 → Int32 → AH → Prop
  | 0 => fun _ _ _ => False
  | n + 1 => fun x2 x3 h =>
  ((12 ≤ x3 → K h) ∧ (¬ 12 ≤ x3 → (isO h x1 6) ∧ ((x2 = mI h x1 2 → K h) ∧ (¬ x2 = mI h x1 2 → (isO h x0 0) ∧ (isO h (mR h x0 0) 5) ∧ (isO h (mR h (mR h x0 0) 0) 2) ∧ wX4_exitOf (mR h (mR h x0 0) 0) x2 h (fun r8 h7 => (isO h7 x0 0) ∧ (isO h7 (mR h7 x0 6) 8) ∧ wJ4_append_cf468 (mR h7 x0 6) 62 h7 (fun r11 h10 => (isO h10 r11 8) ∧ wJ4_append_bf812 r11 r8 h10 (fun r13 h12 => wX9_writeRestOfRoute_L7 K T  x0 x1 n x0 x1 r8 (x3 + 1) h12)) T)))))
def wX9_writeRestOfRoute (a0 : Nat) (a1 : Nat) (h : AH) (K : AH → Prop) (T : String → AH → Prop) : Prop :=
  (isO h a1 6) ∧ (∃ n17, n17 ≤ 13 ∧ wX9_writeRestOfRoute_L7 K T a0 a1 n17 (mI h a1 1) 0 h)
def wX9_writeTrain_J70 (K : Int32 → AH → Prop) (T : String → AH → Prop)  (x0 : Nat) (h : AH) : Prop :=
  (isO h x0 0) ∧ (isO h (mR h x0 6) 8) ∧ wJ4_length_8abf5 (mR h x0 6) h (fun r26 h25 => K r26 h25)
def wX9_writeTrain (a0 : Nat) (a1 : Int32) (h : AH) (K : Int32 → AH → Prop) (T : String → AH → Prop) : Prop :=
  (isO h a0 0) ∧ wX9_presentTrain a0 a1 h (fun r2 h1 => (isO h1 a0 0) ∧ (isO h1 (mR h1 a0 6) 8) ∧ wJ4_setLength_d00df (mR h1 a0 6) 0 h1 (fun h4 => (isO h4 a0 0) ∧ (isO h4 r2 6) ∧ (isO h4 (mR h4 a0 6) 8) ∧ wJ4_append_bf812 (mR h4 a0 6) (mI h4 r2 0) h4 (fun r9 h8 => (isO h8 r9 8) ∧ wJ4_append_cf468 r9 64 h8 (fun r11 h10 => (isO h10 r2 6) ∧ (isO h10 r11 8) ∧ wJ4_append_bf812 r11 (mI h10 r2 1) h10 (fun r14 h13 => (isO h13 r2 6) ∧ wX8_isRouted r2 h13 (fun r16 h15 => ((r16 = 0 → (isO h15 a0 0) ∧ (isO h15 (mR h15 a0 6) 8) ∧ wJ4_append_cf468 (mR h15 a0 6) 63 h15 (fun r20 h19 => (isO h19 r2 6) ∧ (isO h19 r20 8) ∧ wJ4_append_bf812 r20 (mI h19 r2 2) h19 (fun r23 h22 => (wX9_writeTrain_J70 K T a0 h22))) T) ∧ (¬ r16 = 0 → (isO h15 a0 0) ∧ wX9_writeRestOfRoute a0 r2 h15 (fun h30 => (wX9_writeTrain_J70 K T a0 h30)) T))))) T)) T) T
def wJ5_charAt_5068e (a0 : Nat) (a1 : Int32) (h : AH) (K : Int32 → AH → Prop) : Prop :=
  (isO h a0 8) ∧ (isA h (mR h a0 0) 3) ∧ ∀ v3 : Int32, v3 = (if (nI (ln h (mR h a0 0)) >>> (mI h a0 1 &&& 31)) < mI h a0 3 then (nI (ln h (mR h a0 0)) >>> (mI h a0 1 &&& 31)) else mI h a0 3) → wJ0_checkIndex_df160 a1 v3 h (fun h5 => ((¬ mI h a0 1 = 0 → wJ2_getChar_3b067 (mR h a0 0) a1 h5 (fun r9 h8 => (narrow .char (.int r9) = .int r9) ∧ K r9 h8)) ∧ (mI h a0 1 = 0 → (isA h5 (mR h a0 0) 3) ∧ (vp_in a1 (ln h5 (mR h a0 0))) ∧ (narrow .char (.int (((mI h5 (mR h a0 0) a1.toNatClampNeg &&& 255).toUInt32 % 65536).toInt32)) = .int (((mI h5 (mR h a0 0) a1.toNatClampNeg &&& 255).toUInt32 % 65536).toInt32)) ∧ K (((mI h5 (mR h a0 0) a1.toNatClampNeg &&& 255).toUInt32 % 65536).toInt32) h5)))
def wJ4_charAt_5068e (a0 : Nat) (a1 : Int32) (h : AH) (K : Int32 → AH → Prop) : Prop :=
  (isO h a0 8) ∧ wJ5_charAt_5068e a0 a1 h (fun r2 h1 => (narrow .char (.int r2) = .int r2) ∧ K r2 h1)
def wX9_charAt_J15 (K : Int32 → AH → Prop) (T : String → AH → Prop)   (h : AH) : Prop :=
  T "java/lang/IndexOutOfBoundsException" h
def wX9_charAt (a0 : Nat) (a1 : Int32) (h : AH) (K : Int32 → AH → Prop) (T : String → AH → Prop) : Prop :=
  ((a1 < 0 → (wX9_charAt_J15 K T  h)) ∧ (¬ a1 < 0 → (isO h a0 0) ∧ (isO h (mR h a0 6) 8) ∧ wJ4_length_8abf5 (mR h a0 6) h (fun r4 h3 => ((a1 < r4 → (isO h3 a0 0) ∧ (isO h3 (mR h3 a0 6) 8) ∧ wJ4_charAt_5068e (mR h3 a0 6) a1 h3 (fun r8 h7 => (narrow .char (.int r8) = .int r8) ∧ K r8 h7)) ∧ (¬ a1 < r4 → (wX9_charAt_J15 K T  h3))))))
def wX5_append (a0 : Nat) (a1 : Int32) (h : AH) (K : Int32 → AH → Prop) : Prop :=
  (isO h a0 3) ∧ ((mI h a0 1 < 60 → (isA h (mR h a0 0) 4) ∧ (nZ ≤ (mR h a0 0)) ∧ (vp_in (mI h a0 1) (ln h (mR h a0 0))) ∧ ∀ h6, h6 = uI h (mR h a0 0) (mI h a0 1).toNatClampNeg (vp_nar .char a1) → ∀ h7, h7 = uI h6 a0 1 (mI h6 a0 1 + 1) → K 1 h7) ∧ (¬ mI h a0 1 < 60 → K 0 h))
def wX9_type (a0 : Nat) (a1 : Int32) (h : AH) (K : Int32 → AH → Prop) (T : String → AH → Prop) : Prop :=
  (isO h a0 0) ∧ (isO h (mR h a0 5) 3) ∧ wX5_append (mR h a0 5) a1 h (fun r3 h2 => ((¬ r3 = 0 → (isO h2 a0 0) ∧ (isO h2 (mR h2 a0 5) 3) ∧ K (mI h2 (mR h2 a0 5) 1) h2) ∧ (r3 = 0 → T "java/lang/IllegalStateException" h2)))
def wJ0_isLatin1_aae02 (a0 : Nat) (h : AH) (K : Int32 → AH → Prop) : Prop :=
  ((1 = 0 → K 0 h) ∧ (¬ 1 = 0 → (mS h a0 = (20, 0)) ∧ (a0 < nZ) ∧ ((¬ mI h a0 1 = 0 → K 0 h) ∧ (mI h a0 1 = 0 → K 1 h))))
def wJ1_charAt_3b067 (a0 : Nat) (a1 : Int32) (h : AH) (K : Int32 → AH → Prop) : Prop :=
  (isA h a0 3) ∧ wJ0_checkIndex_df160 a1 (nI (ln h a0)) h (fun h2 => (isA h2 a0 3) ∧ (vp_in a1 (ln h2 a0)) ∧ (narrow .char (.int (((mI h2 a0 a1.toNatClampNeg &&& 255).toUInt32 % 65536).toInt32)) = .int (((mI h2 a0 a1.toNatClampNeg &&& 255).toUInt32 % 65536).toInt32)) ∧ K (((mI h2 a0 a1.toNatClampNeg &&& 255).toUInt32 % 65536).toInt32) h2)
def wJ2_charAt_3b067 (a0 : Nat) (a1 : Int32) (h : AH) (K : Int32 → AH → Prop) : Prop :=
  wJ2_checkIndex_2214a a1 a0 h (fun h1 => wJ2_getChar_3b067 a0 a1 h1 (fun r4 h3 => (narrow .char (.int r4) = .int r4) ∧ K r4 h3))
def wJ0_charAt_5068e (a0 : Nat) (a1 : Int32) (h : AH) (K : Int32 → AH → Prop) : Prop :=
  (mS h a0 = (20, 0)) ∧ (a0 < nZ) ∧ wJ0_isLatin1_aae02 a0 h (fun r2 h1 => ((r2 = 0 → (mS h1 a0 = (20, 0)) ∧ (a0 < nZ) ∧ wJ2_charAt_3b067 (mR h1 a0 0) a1 h1 (fun r7 h6 => (narrow .char (.int r7) = .int r7) ∧ K r7 h6)) ∧ (¬ r2 = 0 → (mS h1 a0 = (20, 0)) ∧ (a0 < nZ) ∧ wJ1_charAt_3b067 (mR h1 a0 0) a1 h1 (fun r12 h11 => (narrow .char (.int r12) = .int r12) ∧ K r12 h11))))
def wX5_isDigit (a0 : Nat) (a1 : Int32) (h : AH) (K : Int32 → AH → Prop) : Prop :=
  ((a1 < 0 → K 0 h) ∧ (¬ a1 < 0 → (isO h a0 3) ∧ ((mI h a0 1 ≤ a1 → K 0 h) ∧ (¬ mI h a0 1 ≤ a1 → (isA h (mR h a0 0) 4) ∧ (vp_in a1 (ln h (mR h a0 0))) ∧ ((mI h (mR h a0 0) a1.toNatClampNeg < 48 → K 0 h) ∧ (¬ mI h (mR h a0 0) a1.toNatClampNeg < 48 → ((57 < mI h (mR h a0 0) a1.toNatClampNeg → K 0 h) ∧ (¬ 57 < mI h (mR h a0 0) a1.toNatClampNeg → K 1 h))))))))
def wX5_digitsAt_L5 (K : Int32 → AH → Prop)  (x0 : Nat) (x1 : Int32) (x2 : Int32) : Nat → Int32 → Int32 → AH → Prop
  | 0 => fun _ _ _ => False
  | n + 1 => fun x3 x4 h =>
  ((x2 ≤ x4 → K x3 h) ∧ (¬ x2 ≤ x4 → (isO h x0 3) ∧ wX5_isDigit x0 (x1 + x4) h (fun r3 h2 => ((r3 = 0 → K x3 h2) ∧ (¬ r3 = 0 → wX5_digitsAt_L5 K  x0 x1 x2 n x0 x1 x2 (x3 + 1) (x4 + 1) h2)))))
def wX5_digitsAt (a0 : Nat) (a1 : Int32) (a2 : Int32) (h : AH) (K : Int32 → AH → Prop) : Prop :=
  (∃ n6, wX5_digitsAt_L5 K a0 a1 a2 n6 0 0 h)
def wX5_isAt (a0 : Nat) (a1 : Int32) (a2 : Int32) (h : AH) (K : Int32 → AH → Prop) : Prop :=
  ((a1 < 0 → K 0 h) ∧ (¬ a1 < 0 → (isO h a0 3) ∧ ((mI h a0 1 ≤ a1 → K 0 h) ∧ (¬ mI h a0 1 ≤ a1 → (isA h (mR h a0 0) 4) ∧ (vp_in a1 (ln h (mR h a0 0))) ∧ ((¬ mI h (mR h a0 0) a1.toNatClampNeg = a2 → K 0 h) ∧ (mI h (mR h a0 0) a1.toNatClampNeg = a2 → K 1 h))))))
def wX5_noteNumber_L6 (K : AH → Prop) (c49 : Nat → Int32 → Int32 → AH → Prop) (x0 : Nat) (x1 : Int32) (x2 : Int32) (x3 : Int32) : Nat → Int32 → Int32 → AH → Prop
  | 0 => fun _ _ _ => False
  | n + 1 => fun x4 x5 h =>
  ((x3 ≤ x5 → c49 x0 x1 x4 h) ∧ (¬ x3 ≤ x5 → (isO h x0 3) ∧ wX5_isDigit x0 (x2 + x5) h (fun r3 h2 => ((r3 = 0 → c49 x0 x1 x4 h2) ∧ (¬ r3 = 0 → (isO h2 x0 3) ∧ (isA h2 (mR h2 x0 0) 4) ∧ (vp_in (x2 + x5) (ln h2 (mR h2 x0 0))) ∧ ∀ v8 : Int32, v8 = ((x4 * 10) + (mI h2 (mR h2 x0 0) (x2 + x5).toNatClampNeg - 48)) → wX5_noteNumber_L6 K c49 x0 x1 x2 x3 n x0 x1 x2 x3 v8 (x5 + 1) h2)))))
def wX5_noteNumber (a0 : Nat) (a1 : Int32) (a2 : Int32) (a3 : Int32) (h : AH) (K : AH → Prop) : Prop :=
  (∃ n25, wX5_noteNumber_L6 K (fun x0_11 x1_12 x4_13 h14 => ((3 ≤ x1_12 → K h14) ∧ (¬ 3 ≤ x1_12 → (isO h14 x0_11 3) ∧ ((13 ≤ mI h14 x0_11 4 → K h14) ∧ (¬ 13 ≤ mI h14 x0_11 4 → (isA h14 (mR h14 x0_11 3) 8) ∧ (nZ ≤ (mR h14 x0_11 3)) ∧ (vp_in (mI h14 x0_11 4) (ln h14 (mR h14 x0_11 3))) ∧ (isA h14 (mR h14 (mR h14 x0_11 3) (mI h14 x0_11 4).toNatClampNeg) 0) ∧ (nZ ≤ (mR h14 (mR h14 x0_11 3) (mI h14 x0_11 4).toNatClampNeg)) ∧ (vp_in x1_12 (ln h14 (mR h14 (mR h14 x0_11 3) (mI h14 x0_11 4).toNatClampNeg))) ∧ ∀ h24, h24 = uI h14 (mR h14 (mR h14 x0_11 3) (mI h14 x0_11 4).toNatClampNeg) x1_12.toNatClampNeg x4_13 → K h24))))) a0 a1 a2 a3 n25 0 0 h)
def wX5_match_J100 (K : Int32 → AH → Prop) (c8 : Nat → Nat → Int32 → Int32 → Int32 → AH → Prop) (x0 : Nat) (x1 : Nat) (x3 : Int32) (x4 : Int32) (x5 : Int32) (x7 : Int32) (h : AH) : Prop :=
  (isO h x0 3) ∧ ∀ h15, h15 = uI h x0 5 (if mI h x0 5 < (x3 + x7) then (x3 + x7) else mI h x0 5) → ((¬ x7 = 0 → c8 x0 x1 (x3 + x7) x4 (x5 + 1) h15) ∧ (x7 = 0 → K (-1) h15))
def wX5_match_J88 (K : Int32 → AH → Prop) (c8 : Nat → Nat → Int32 → Int32 → Int32 → AH → Prop) (x0 : Nat) (x1 : Nat) (x3 : Int32) (x4 : Int32) (x5 : Int32) (x7 : Int32) (h : AH) : Prop :=
  (isO h x0 3) ∧ wX5_noteNumber x0 x4 x3 x7 h (fun h12 => (wX5_match_J100 K c8 x0 x1 x3 (x4 + 1) x5 x7 h12))
def wX5_match_J72 (K : Int32 → AH → Prop) (c8 : Nat → Nat → Int32 → Int32 → Int32 → AH → Prop) (x0 : Nat) (x1 : Nat) (x3 : Int32) (x4 : Int32) (x5 : Int32) (x6 : Int32) (y0 : Int32) (h : AH) : Prop :=
  ((x6 = 35 → (wX5_match_J88 K c8 x0 x1 x3 x4 x5 y0 h)) ∧ (¬ x6 = 35 → ((¬ x6 = 42 → (wX5_match_J100 K c8 x0 x1 x3 x4 x5 y0 h)) ∧ (x6 = 42 → (wX5_match_J88 K c8 x0 x1 x3 x4 x5 y0 h)))))
def wX5_match_L8 (K : Int32 → AH → Prop)  (x0 : Nat) (x1 : Nat) : Nat → Int32 → Int32 → Int32 → AH → Prop
  | 0 => fun _ _ _ _ => False
  | n + 1 => fun x3 x4 x5 h =>
  (mS h x1 = (20, 0)) ∧ (x1 < nZ) ∧ wJ0_length_8abf5 x1 h (fun r2 h1 => ((r2 ≤ x5 → K x3 h1) ∧ (¬ r2 ≤ x5 → (mS h1 x1 = (20, 0)) ∧ (x1 < nZ) ∧ wJ0_charAt_5068e x1 x5 h1 (fun r5 h4 => ((¬ r5 = 35 → ((¬ r5 = 42 → (isO h4 x0 3) ∧ wX5_isAt x0 x3 r5 h4 (fun r9 h8 => ((r9 = 0 → (wX5_match_J72 K (wX5_match_L8 K  x0 x1 n) x0 x1 x3 x4 x5 r5 0 h8)) ∧ (¬ r9 = 0 → (wX5_match_J72 K (wX5_match_L8 K  x0 x1 n) x0 x1 x3 x4 x5 r5 1 h8))))) ∧ (r5 = 42 → (isO h4 x0 3) ∧ wX5_digitsAt x0 x3 3 h4 (fun r21 h20 => (wX5_match_J72 K (wX5_match_L8 K  x0 x1 n) x0 x1 x3 x4 x5 r5 r21 h20))))) ∧ (r5 = 35 → (isO h4 x0 3) ∧ wX5_digitsAt x0 x3 1 h4 (fun r24 h23 => (wX5_match_J72 K (wX5_match_L8 K  x0 x1 n) x0 x1 x3 x4 x5 r5 r24 h23))))))))
def wX5_match (a0 : Nat) (a1 : Nat) (a2 : Int32) (h : AH) (K : Int32 → AH → Prop) : Prop :=
  (∃ n30, wX5_match_L8 K a0 a1 n30 a2 0 0 h)
def wX5_parseCommand_L9 (K : Int32 → AH → Prop)  (x0 : Nat) (x1 : Int32) : Nat → Int32 → Int32 → AH → Prop
  | 0 => fun _ _ _ => False
  | n + 1 => fun x2 x3 h =>
  (isA h 1 7) ∧ ((nI (ln h 1) ≤ x3 → (isO h x0 3) ∧ ((x2 = mI h x0 1 → K x2 h) ∧ (¬ x2 = mI h x0 1 → wX5_isAt x0 x2 59 h (fun r8 h7 => ((r8 = 0 → K (-1) h7) ∧ (¬ r8 = 0 → K x2 h7)))))) ∧ (¬ nI (ln h 1) ≤ x3 → (vp_in x3 (ln h 1)) ∧ (mS h (mR h 1 x3.toNatClampNeg) = (21, 0)) ∧ ((mR h 1 x3.toNatClampNeg) < nZ) ∧ (isO h x0 3) ∧ wX5_match x0 (mR h (mR h 1 x3.toNatClampNeg) 0) x1 h (fun r14 h13 => ((r14 ≤ x2 → wX5_parseCommand_L9 K  x0 x1 n x0 x1 x2 (x3 + 1) h13) ∧ (¬ r14 ≤ x2 → (isO h13 x0 3) ∧ ((13 ≤ mI h13 x0 4 → wX5_parseCommand_L9 K  x0 x1 n x0 x1 x2 (x3 + 1) h13) ∧ (¬ 13 ≤ mI h13 x0 4 → (isA h13 1 7) ∧ (vp_in x3 (ln h13 1)) ∧ (isA h13 (mR h13 x0 2) 7) ∧ (mS h13 (mR h13 1 x3.toNatClampNeg) = (21, 0)) ∧ ((mR h13 1 x3.toNatClampNeg) < nZ) ∧ (nZ ≤ (mR h13 x0 2)) ∧ (vp_in (mI h13 x0 4) (ln h13 (mR h13 x0 2))) ∧ ∀ h25, h25 = uR h13 (mR h13 x0 2) (mI h13 x0 4).toNatClampNeg (mR h13 1 x3.toNatClampNeg) → wX5_parseCommand_L9 K  x0 x1 n x0 x1 r14 (x3 + 1) h25)))))))
def wX5_parseCommand (a0 : Nat) (a1 : Int32) (h : AH) (K : Int32 → AH → Prop) : Prop :=
  (isO h a0 3) ∧ ∀ h2, h2 = uI h a0 5 a1 → (∃ n27, wX5_parseCommand_L9 K a0 a1 n27 (-1) 0 h2)
def wX5_parse_L9 (K : Int32 → AH → Prop)  (x0 : Nat) : Nat → Int32 → Int32 → AH → Prop
  | 0 => fun _ _ _ => False
  | n + 1 => fun x1 x2 h =>
  ((13 ≤ x2 → K 0 h) ∧ (¬ 13 ≤ x2 → (isO h x0 3) ∧ wX5_parseCommand x0 x1 h (fun r5 h4 => ((¬ r5 = (-1) → (isO h4 x0 3) ∧ ∀ h8, h8 = uI h4 x0 4 (mI h4 x0 4 + 1) → ((¬ r5 = mI h8 x0 1 → wX5_parse_L9 K  x0 n x0 (r5 + 1) (x2 + 1) h8) ∧ (r5 = mI h8 x0 1 → K 1 h8))) ∧ (r5 = (-1) → K 0 h4)))))
def wX5_parse (a0 : Nat) (h : AH) (K : Int32 → AH → Prop) : Prop :=
  (isO h a0 3) ∧ ∀ h2, h2 = uI h a0 4 0 → (∃ n11, wX5_parse_L9 K a0 n11 0 0 h2)
def wX5_clear (a0 : Nat) (h : AH) (K : AH → Prop) : Prop :=
  (isO h a0 3) ∧ ∀ h2, h2 = uI h a0 1 0 → K h2
def wX5_number_J26 (K : Int32 → AH → Prop)  (x0 : Nat) (x1 : Int32) (x2 : Int32) (y0 : Int32) (h : AH) : Prop :=
  ((y0 = 0 → K (-1) h) ∧ (¬ y0 = 0 → (isO h x0 3) ∧ (isA h (mR h x0 3) 8) ∧ (nZ ≤ (mR h x0 3)) ∧ (vp_in x1 (ln h (mR h x0 3))) ∧ (isA h (mR h (mR h x0 3) x1.toNatClampNeg) 0) ∧ (vp_in x2 (ln h (mR h (mR h x0 3) x1.toNatClampNeg))) ∧ K (mI h (mR h (mR h x0 3) x1.toNatClampNeg) x2.toNatClampNeg) h))
def wX5_number_J25 (K : Int32 → AH → Prop)  (x0 : Nat) (x1 : Int32) (x2 : Int32) (h : AH) : Prop :=
  (wX5_number_J26 K x0 x1 x2 0 h)
def wX5_number (a0 : Nat) (a1 : Int32) (a2 : Int32) (h : AH) (K : Int32 → AH → Prop) : Prop :=
  ((a1 < 0 → (wX5_number_J25 K a0 a1 a2 h)) ∧ (¬ a1 < 0 → (isO h a0 3) ∧ ((mI h a0 4 ≤ a1 → (wX5_number_J25 K a0 a1 a2 h)) ∧ (¬ mI h a0 4 ≤ a1 → ((a2 < 0 → (wX5_number_J25 K a0 a1 a2 h)) ∧ (¬ a2 < 0 → ((3 ≤ a2 → (wX5_number_J25 K a0 a1 a2 h)) ∧ (¬ 3 ≤ a2 → (wX5_number_J26 K a0 a1 a2 1 h)))))))))
def wX5_command (a0 : Nat) (a1 : Int32) (h : AH) (K : Nat → AH → Prop) : Prop :=
  ((a1 < 0 → K 11 h) ∧ (¬ a1 < 0 → (isO h a0 3) ∧ ((mI h a0 4 ≤ a1 → K 11 h) ∧ (¬ mI h a0 4 ≤ a1 → (isA h (mR h a0 2) 7) ∧ (vp_in a1 (ln h (mR h a0 2))) ∧ K (mR h (mR h a0 2) a1.toNatClampNeg) h))))
def wJord (a0 : Nat) (h : AH) (K : Int32 → AH → Prop) : Prop :=
  (mS h a0 = (21, 0)) ∧ (a0 < nZ) ∧ K (mI h a0 1) h
def wX9_execute (a0 : Nat) (a1 : Int32) (h : AH) (K : Int32 → AH → Prop) : Prop :=
  (isO h a0 0) ∧ (isO h (mR h a0 5) 3) ∧ wX5_number (mR h a0 5) a1 0 h (fun r3 h2 => (isO h2 a0 0) ∧ (isO h2 (mR h2 a0 5) 3) ∧ wX5_number (mR h2 a0 5) a1 1 h2 (fun r6 h5 => (isO h5 a0 0) ∧ (isO h5 (mR h5 a0 5) 3) ∧ wX5_number (mR h5 a0 5) a1 2 h5 (fun r9 h8 => (isO h8 a0 0) ∧ (isO h8 (mR h8 a0 5) 3) ∧ wX5_command (mR h8 a0 5) a1 h8 (fun r12 h11 => (mS h11 r12 = (21, 0)) ∧ (r12 < nZ) ∧ wJord r12 h11 (fun r14 h13 => (isA h13 13 0) ∧ (vp_in r14 (ln h13 13)) ∧ ((mI h13 13 r14.toNatClampNeg = 1 → (isO h13 a0 0) ∧ (isO h13 (mR h13 a0 0) 5) ∧ (isO h13 (mR h13 (mR h13 a0 0) 0) 2) ∧ wX4_makeBlock (mR h13 (mR h13 a0 0) 0) r3 h13 (fun r20 h19 => K r20 h19)) ∧ (mI h13 13 r14.toNatClampNeg = 2 → (isO h13 a0 0) ∧ (isO h13 (mR h13 a0 0) 5) ∧ (isO h13 (mR h13 (mR h13 a0 0) 0) 2) ∧ wX4_makePoint (mR h13 (mR h13 a0 0) 0) r3 r6 r9 h13 (fun r25 h24 => K r25 h24)) ∧ (mI h13 13 r14.toNatClampNeg = 3 → (isO h13 a0 0) ∧ (isO h13 (mR h13 a0 0) 5) ∧ (isO h13 (mR h13 (mR h13 a0 0) 0) 2) ∧ wX4_makeLink (mR h13 (mR h13 a0 0) 0) r3 r6 h13 (fun r30 h29 => K r30 h29)) ∧ (mI h13 13 r14.toNatClampNeg = 4 → (isO h13 a0 0) ∧ (isO h13 (mR h13 a0 0) 5) ∧ wX7_bringTrain (mR h13 a0 0) r3 r6 h13 (fun r34 h33 => K r34 h33)) ∧ (mI h13 13 r14.toNatClampNeg = 5 → (isO h13 a0 0) ∧ wX9_grantOrRecord a0 r3 h13 (fun r37 h36 => K r37 h36)) ∧ (mI h13 13 r14.toNatClampNeg = 6 → (isO h13 a0 0) ∧ (isO h13 (mR h13 a0 0) 5) ∧ wX7_withdrawRoute (mR h13 a0 0) r3 h13 (fun r41 h40 => K r41 h40)) ∧ (mI h13 13 r14.toNatClampNeg = 7 → (isO h13 a0 0) ∧ (isO h13 (mR h13 a0 0) 5) ∧ wX7_shutBlock (mR h13 a0 0) r3 h13 (fun r45 h44 => K r45 h44)) ∧ (mI h13 13 r14.toNatClampNeg = 8 → (isO h13 a0 0) ∧ (isO h13 (mR h13 a0 0) 5) ∧ wX7_openBlock (mR h13 a0 0) r3 h13 (fun r49 h48 => K r49 h48)) ∧ (mI h13 13 r14.toNatClampNeg = 9 → (isO h13 a0 0) ∧ (isO h13 (mR h13 a0 0) 5) ∧ wX7_movePoint (mR h13 a0 0) r3 h13 (fun r53 h52 => K r53 h52)) ∧ (mI h13 13 r14.toNatClampNeg = 10 → (isO h13 a0 0) ∧ (isO h13 (mR h13 a0 0) 5) ∧ wX7_letPass (mR h13 a0 0) 1 h13 (fun r57 h56 => K r57 h56)) ∧ (¬ mI h13 13 r14.toNatClampNeg = 1 ∧ ¬ mI h13 13 r14.toNatClampNeg = 2 ∧ ¬ mI h13 13 r14.toNatClampNeg = 3 ∧ ¬ mI h13 13 r14.toNatClampNeg = 4 ∧ ¬ mI h13 13 r14.toNatClampNeg = 5 ∧ ¬ mI h13 13 r14.toNatClampNeg = 6 ∧ ¬ mI h13 13 r14.toNatClampNeg = 7 ∧ ¬ mI h13 13 r14.toNatClampNeg = 8 ∧ ¬ mI h13 13 r14.toNatClampNeg = 9 ∧ ¬ mI h13 13 r14.toNatClampNeg = 10 → (isO h13 a0 0) ∧ (isO h13 (mR h13 a0 0) 5) ∧ wX7_letPass (mR h13 a0 0) r3 h13 (fun r61 h60 => K r61 h60))))))))
def wX2_putBack (a0 : Nat) (a1 : Nat) (h : AH) (K : AH → Prop) : Prop :=
  (isO h a0 1) ∧ (isA h (mR h a0 0) 5) ∧ (vp_in (mI h a0 1) (ln h (mR h a0 0))) ∧ (isO h a1 5) ∧ wX7_copyFrom a1 (mR h (mR h a0 0) (mI h a0 1).toNatClampNeg) h (fun h4 => K h4)
def wX9_run_L54 (K : Int32 → AH → Prop) (T : String → AH → Prop)  (x0 : Nat) : Nat → Int32 → AH → Prop
  | 0 => fun _ _ => False
  | n + 1 => fun x2 h =>
  (isO h x0 0) ∧ (isO h (mR h x0 5) 3) ∧ ((mI h (mR h x0 5) 4 ≤ x2 → wX9_settle x0 (mI h (mR h x0 5) 4) h (fun r15 h14 => K r15 h14) T) ∧ (¬ mI h (mR h x0 5) 4 ≤ x2 → wX9_execute x0 x2 h (fun r17 h16 => ((0 ≤ r17 → wX9_run_L54 K T  x0 n x0 (x2 + 1) h16) ∧ (¬ 0 ≤ r17 → (isO h16 x0 0) ∧ (isO h16 (mR h16 x0 3) 1) ∧ wX2_putBack (mR h16 x0 3) (mR h16 x0 0) h16 (fun h20 => (isO h20 x0 0) ∧ ∀ h23, h23 = uI h20 x0 11 x2 → T "java/lang/UnsupportedOperationException" h23))))))
def wX9_run (a0 : Nat) (h : AH) (K : Int32 → AH → Prop) (T : String → AH → Prop) : Prop :=
  (isO h a0 0) ∧ (isO h (mR h a0 5) 3) ∧ wX5_parse (mR h a0 5) h (fun r3 h2 => (isO h2 a0 0) ∧ (isO h2 (mR h2 a0 5) 3) ∧ wX5_clear (mR h2 a0 5) h2 (fun h5 => ((¬ r3 = 0 → (isO h5 a0 0) ∧ (isO h5 (mR h5 a0 3) 1) ∧ wX2_keep (mR h5 a0 3) (mR h5 a0 0) h5 (fun h9 => (∃ n25, wX9_run_L54 K T a0 n25 0 h9))) ∧ (r3 = 0 → (isO h5 a0 0) ∧ (isO h5 (mR h5 a0 5) 3) ∧ ∀ h29, h29 = uI h5 a0 10 (mI h5 (mR h5 a0 5) 5) → T "java/lang/IllegalArgumentException" h29))))
def wX9_errorPosition (a0 : Nat) (h : AH) (K : Int32 → AH → Prop) (T : String → AH → Prop) : Prop :=
  (isO h a0 0) ∧ ((¬ mI h a0 10 = (-1) → K (mI h a0 10) h) ∧ (mI h a0 10 = (-1) → T "java/util/NoSuchElementException" h))
def wX9_failedCommand (a0 : Nat) (h : AH) (K : Int32 → AH → Prop) (T : String → AH → Prop) : Prop :=
  (isO h a0 0) ∧ ((¬ mI h a0 11 = (-1) → K (mI h a0 11) h) ∧ (mI h a0 11 = (-1) → T "java/util/NoSuchElementException" h))
def wX2_takeBack (a0 : Nat) (a1 : Nat) (h : AH) (K : Int32 → AH → Prop) : Prop :=
  (isO h a0 1) ∧ ((¬ mI h a0 2 = 0 → ∀ h3, h3 = uI h a0 2 (mI h a0 2 - 1) → ∀ h4, h4 = uI h3 a0 1 (((mI h3 a0 1 + 9) - 1) - ((mI h3 a0 1 + 9) - 1) / 9 * 9) → wX2_putBack a0 a1 h4 (fun h5 => K 1 h5)) ∧ (mI h a0 2 = 0 → K 0 h))
def wX9_undo (a0 : Nat) (h : AH) (K : Int32 → AH → Prop) (T : String → AH → Prop) : Prop :=
  (isO h a0 0) ∧ (isO h (mR h a0 3) 1) ∧ wX2_takeBack (mR h a0 3) (mR h a0 0) h (fun r3 h2 => ((¬ r3 = 0 → (isO h2 a0 0) ∧ (isO h2 (mR h2 a0 3) 1) ∧ K (mI h2 (mR h2 a0 3) 2) h2) ∧ (r3 = 0 → T "java/lang/IllegalStateException" h2)))
def wX9_save (a0 : Nat) (h : AH) (K : Int32 → AH → Prop) : Prop :=
  (isO h a0 0) ∧ (isO h (mR h a0 1) 5) ∧ wX7_copyFrom (mR h a0 1) (mR h a0 0) h (fun h2 => (isO h2 a0 0) ∧ ∀ h5, h5 = uI h2 a0 7 1 → (isO h2 (mR h2 a0 0) 5) ∧ K (mI h5 (mR h2 a0 0) 3) h5)
def wX2_forget (a0 : Nat) (h : AH) (K : AH → Prop) : Prop :=
  (isO h a0 1) ∧ ∀ h2, h2 = uI h a0 2 0 → K h2
def wX9_restore (a0 : Nat) (h : AH) (K : Int32 → AH → Prop) (T : String → AH → Prop) : Prop :=
  (isO h a0 0) ∧ ((¬ mI h a0 7 = 0 → (isO h (mR h a0 0) 5) ∧ wX7_copyFrom (mR h a0 0) (mR h a0 1) h (fun h3 => (isO h3 a0 0) ∧ (isO h3 (mR h3 a0 3) 1) ∧ wX2_forget (mR h3 a0 3) h3 (fun h6 => (isO h6 a0 0) ∧ (isO h6 (mR h6 a0 0) 5) ∧ K (mI h6 (mR h6 a0 0) 3) h6))) ∧ (mI h a0 7 = 0 → T "java/lang/IllegalStateException" h))
def wX10_init (a0 : Nat) (h : AH) (K : AH → Prop) : Prop :=
  (¬ a0 = 0) ∧ ∀ h2, h2 = nw h 100 281 → (isO h2 a0 7) ∧ ∀ h4, h4 = uR h2 a0 1 (mN h) → ∀ h5, h5 = nw h4 100 281 → (isO h5 a0 7) ∧ ∀ h7, h7 = uR h5 a0 2 (mN h4) → ∀ h8, h8 = nw h7 100 281 → (isO h8 a0 7) ∧ ∀ h10, h10 = uR h8 a0 3 (mN h7) → ∀ h11, h11 = nw h10 100 2248 → (isO h11 a0 7) ∧ ∀ h13, h13 = uR h11 a0 4 (mN h10) → ∀ h14, h14 = nw h13 100 60 → (isO h14 a0 7) ∧ ∀ h16, h16 = uR h14 a0 7 (mN h13) → ∀ h17, h17 = nw h16 100 240 → (isO h17 a0 7) ∧ ∀ h19, h19 = uR h17 a0 8 (mN h16) → ∀ h20, h20 = nw h19 100 80 → (isO h20 a0 7) ∧ ∀ h22, h22 = uR h20 a0 9 (mN h19) → ∀ h23, h23 = nw h22 100 12 → (isO h23 a0 7) ∧ ∀ h25, h25 = uR h23 a0 10 (mN h22) → ∀ h26, h26 = nw h25 100 12 → (isO h26 a0 7) ∧ ∀ h28, h28 = uR h26 a0 11 (mN h25) → ∀ h29, h29 = nw h28 100 12 → (isO h29 a0 7) ∧ ∀ h31, h31 = uR h29 a0 12 (mN h28) → ∀ h32, h32 = nw h31 100 8 → (isO h32 a0 7) ∧ ∀ h34, h34 = uR h32 a0 13 (mN h31) → ∀ h35, h35 = nw h34 100 8 → (isO h35 a0 7) ∧ ∀ h37, h37 = uR h35 a0 14 (mN h34) → ∀ h38, h38 = uI h37 a0 17 (-1) → ∀ h39, h39 = uI h38 a0 18 (-1) → ∀ h40, h40 = uI h39 a0 22 (-1) → K h40
def wX10_thrown (a0 : Nat) (h : AH) (K : Int32 → AH → Prop) : Prop :=
  (isO h a0 7) ∧ K (mI h a0 0) h
def wX10_fails (a0 : Nat) (a1 : Int32) (h : AH) (K : Int32 → AH → Prop) : Prop :=
  (isO h a0 7) ∧ ∀ h2, h2 = uI h a0 0 a1 → K 0 h2
def wX10_in (a0 : Int32) (a1 : Int32) (a2 : Int32) (h : AH) (K : Int32 → AH → Prop) : Prop :=
  ((a0 < a1 → K 0 h) ∧ (¬ a0 < a1 → ((a2 < a0 → K 0 h) ∧ (¬ a2 < a0 → K 1 h))))
def wX10_remembers_L7 (K : AH → Prop)  (x0 : Nat) : Nat → Int32 → AH → Prop
  | 0 => fun _ _ => False
  | n + 1 => fun x1 h =>
  ((281 ≤ x1 → K h) ∧ (¬ 281 ≤ x1 → (isO h x0 7) ∧ (isA h (mR h x0 1) 0) ∧ (vp_in x1 (ln h (mR h x0 1))) ∧ (isA h (mR h x0 2) 0) ∧ (nZ ≤ (mR h x0 2)) ∧ (vp_in x1 (ln h (mR h x0 2))) ∧ ∀ h10, h10 = uI h (mR h x0 2) x1.toNatClampNeg (mI h (mR h x0 1) x1.toNatClampNeg) → wX10_remembers_L7 K  x0 n x0 (x1 + 1) h10))
def wX10_remembers (a0 : Nat) (h : AH) (K : AH → Prop) : Prop :=
  (isO h a0 7) ∧ ∀ h2, h2 = uI h a0 0 0 → (∃ n11, wX10_remembers_L7 K a0 n11 0 h2)
def wX10_changed_L55 (K : Int32 → AH → Prop)  (x0 : Nat) (x1 : Int32) : Nat → Int32 → AH → Prop
  | 0 => fun _ _ => False
  | n + 1 => fun x2 h =>
  ((281 ≤ x2 → K x1 h) ∧ (¬ 281 ≤ x2 → (isO h x0 7) ∧ (isA h (mR h x0 2) 0) ∧ (vp_in x2 (ln h (mR h x0 2))) ∧ (isA h (mR h x0 4) 0) ∧ (nZ ≤ (mR h x0 4)) ∧ (vp_in ((281 * (mI h x0 5 - 1)) + x2) (ln h (mR h x0 4))) ∧ ∀ h11, h11 = uI h (mR h x0 4) ((281 * (mI h x0 5 - 1)) + x2).toNatClampNeg (mI h (mR h x0 2) x2.toNatClampNeg) → wX10_changed_L55 K  x0 x1 n x0 x1 (x2 + 1) h11))
def wX10_changed_L11 (K : Int32 → AH → Prop) (c40 : Nat → Int32 → AH → Prop) (x0 : Nat) (x1 : Int32) : Nat → Int32 → AH → Prop
  | 0 => fun _ _ => False
  | n + 1 => fun x2 h =>
  ((1967 ≤ x2 → c40 x0 x1 h) ∧ (¬ 1967 ≤ x2 → (isO h x0 7) ∧ (isA h (mR h x0 4) 0) ∧ (vp_in (x2 + 281) (ln h (mR h x0 4))) ∧ (nZ ≤ (mR h x0 4)) ∧ (vp_in x2 (ln h (mR h x0 4))) ∧ ∀ h19, h19 = uI h (mR h x0 4) x2.toNatClampNeg (mI h (mR h x0 4) (x2 + 281).toNatClampNeg) → wX10_changed_L11 K c40 x0 x1 n x0 x1 (x2 + 1) h19))
def wX10_changed (a0 : Nat) (a1 : Int32) (h : AH) (K : Int32 → AH → Prop) : Prop :=
  (isO h a0 7) ∧ ((¬ mI h a0 5 = 8 → ∀ h3, h3 = uI h a0 5 (mI h a0 5 + 1) → (∃ n12, wX10_changed_L55 K a0 a1 n12 0 h3)) ∧ (mI h a0 5 = 8 → (∃ n24, wX10_changed_L11 K (fun x0_20 x1_21 h22 => (∃ n23, wX10_changed_L55 K x0_20 x1_21 n23 0 h22)) a0 a1 n24 0 h)))
def wX10_done (a0 : Nat) (a1 : Int32) (h : AH) (K : Int32 → AH → Prop) : Prop :=
  (isO h a0 7) ∧ ∀ h2, h2 = uI h a0 19 a1 → K 0 h2
def wX10_ends (a0 : Nat) (a1 : Int32) (h : AH) (K : Int32 → AH → Prop) : Prop :=
  ((¬ a1 = 0 → (isO h a0 7) ∧ wX10_fails a0 a1 h (fun r3 h2 => K r3 h2)) ∧ (a1 = 0 → (isO h a0 7) ∧ wX10_changed a0 (mI h a0 19) h (fun r7 h6 => K r7 h6)))
def wX10_isBlock (a0 : Nat) (a1 : Int32) (h : AH) (K : Int32 → AH → Prop) : Prop :=
  (isO h a0 7) ∧ (isA h (mR h a0 1) 0) ∧ (vp_in 0 (ln h (mR h a0 1))) ∧ wX10_in a1 0 (mI h (mR h a0 1) 0.toNatClampNeg - 1) h (fun r5 h4 => (narrow .boolean (.int r5) = .int r5) ∧ K r5 h4)
def wX10_isPoint (a0 : Nat) (a1 : Int32) (h : AH) (K : Int32 → AH → Prop) : Prop :=
  (isO h a0 7) ∧ (isA h (mR h a0 1) 0) ∧ (vp_in 1 (ln h (mR h a0 1))) ∧ wX10_in a1 0 (mI h (mR h a0 1) 1.toNatClampNeg - 1) h (fun r5 h4 => (narrow .boolean (.int r5) = .int r5) ∧ K r5 h4)
def wX10_block (a0 : Nat) (a1 : Int32) (a2 : Int32) (h : AH) (K : Int32 → AH → Prop) : Prop :=
  (isO h a0 7) ∧ (isA h (mR h a0 1) 0) ∧ (vp_in ((9 + (6 * a1)) + a2) (ln h (mR h a0 1))) ∧ K (mI h (mR h a0 1) ((9 + (6 * a1)) + a2).toNatClampNeg) h
def wX10_puts (a0 : Nat) (a1 : Int32) (a2 : Int32) (a3 : Int32) (h : AH) (K : AH → Prop) : Prop :=
  (isO h a0 7) ∧ (isA h (mR h a0 1) 0) ∧ (nZ ≤ (mR h a0 1)) ∧ (vp_in ((9 + (6 * a1)) + a2) (ln h (mR h a0 1))) ∧ ∀ h5, h5 = uI h (mR h a0 1) ((9 + (6 * a1)) + a2).toNatClampNeg a3 → K h5
def wX10_point (a0 : Nat) (a1 : Int32) (a2 : Int32) (h : AH) (K : Int32 → AH → Prop) : Prop :=
  (isO h a0 7) ∧ (isA h (mR h a0 1) 0) ∧ (vp_in ((81 + (5 * a1)) + a2) (ln h (mR h a0 1))) ∧ K (mI h (mR h a0 1) ((81 + (5 * a1)) + a2).toNatClampNeg) h
def wX10_train (a0 : Nat) (a1 : Int32) (a2 : Int32) (h : AH) (K : Int32 → AH → Prop) : Prop :=
  (isO h a0 7) ∧ (isA h (mR h a0 1) 0) ∧ (vp_in ((121 + (19 * a1)) + a2) (ln h (mR h a0 1))) ∧ K (mI h (mR h a0 1) ((121 + (19 * a1)) + a2).toNatClampNeg) h
def wX10_tells (a0 : Nat) (a1 : Int32) (a2 : Int32) (a3 : Int32) (h : AH) (K : AH → Prop) : Prop :=
  (isO h a0 7) ∧ (isA h (mR h a0 1) 0) ∧ (nZ ≤ (mR h a0 1)) ∧ (vp_in ((121 + (19 * a1)) + a2) (ln h (mR h a0 1))) ∧ ∀ h5, h5 = uI h (mR h a0 1) ((121 + (19 * a1)) + a2).toNatClampNeg a3 → K h5
def wX10_placeOf_L2 (K : Int32 → AH → Prop)  (x0 : Nat) (x1 : Int32) : Nat → Int32 → AH → Prop
  | 0 => fun _ _ => False
  | n + 1 => fun x2 h =>
  (isO h x0 7) ∧ (isA h (mR h x0 1) 0) ∧ (vp_in 4 (ln h (mR h x0 1))) ∧ ((mI h (mR h x0 1) 4.toNatClampNeg ≤ x2 → K (-1) h) ∧ (¬ mI h (mR h x0 1) 4.toNatClampNeg ≤ x2 → wX10_train x0 x2 0 h (fun r6 h5 => ((¬ r6 = x1 → wX10_placeOf_L2 K  x0 x1 n x0 x1 (x2 + 1) h5) ∧ (r6 = x1 → K x2 h5)))))
def wX10_placeOf (a0 : Nat) (a1 : Int32) (h : AH) (K : Int32 → AH → Prop) : Prop :=
  (∃ n8, wX10_placeOf_L2 K a0 a1 n8 0 h)
def wX10_look (a0 : Nat) (a1 : Int32) (h : AH) (K : Int32 → AH → Prop) : Prop :=
  (isO h a0 7) ∧ wX10_block a0 a1 1 h (fun r2 h1 => ((¬ r2 = 1 → (isO h1 a0 7) ∧ wX10_block a0 a1 4 h1 (fun r5 h4 => ((r5 ≤ 0 → (isO h4 a0 7) ∧ wX10_block a0 a1 5 h4 (fun r8 h7 => ((r8 ≤ 0 → K 102 h7) ∧ (¬ r8 ≤ 0 → K 114 h7)))) ∧ (¬ r5 ≤ 0 → K 111 h4)))) ∧ (r2 = 1 → K 115 h1)))
def wX10_shutMany_L4 (K : Int32 → AH → Prop)  (x0 : Nat) : Nat → Int32 → Int32 → AH → Prop
  | 0 => fun _ _ _ => False
  | n + 1 => fun x1 x2 h =>
  (isO h x0 7) ∧ (isA h (mR h x0 1) 0) ∧ (vp_in 0 (ln h (mR h x0 1))) ∧ ((mI h (mR h x0 1) 0.toNatClampNeg ≤ x2 → K x1 h) ∧ (¬ mI h (mR h x0 1) 0.toNatClampNeg ≤ x2 → wX10_block x0 x2 1 h (fun r6 h5 => wX10_shutMany_L4 K  x0 n x0 (x1 + r6) (x2 + 1) h5)))
def wX10_shutMany (a0 : Nat) (h : AH) (K : Int32 → AH → Prop) : Prop :=
  (∃ n7, wX10_shutMany_L4 K a0 n7 0 0 h)
def wX10_exit (a0 : Nat) (a1 : Int32) (a2 : Int32) (h : AH) (K : Int32 → AH → Prop) : Prop :=
  (isO h a0 7) ∧ wX10_block a0 a1 3 h (fun r2 h1 => ((r2 ≤ 0 → ((¬ a2 = 0 → K (-1) h1) ∧ (a2 = 0 → (isO h1 a0 7) ∧ wX10_block a0 a1 2 h1 (fun r6 h5 => K (r6 - 1) h5)))) ∧ (¬ r2 ≤ 0 → (isO h1 a0 7) ∧ wX10_block a0 a1 3 h1 (fun r9 h8 => (isO h8 a0 7) ∧ wX10_point a0 (r9 - 1) (1 + a2) h8 (fun r11 h10 => K r11 h10)))))
def wX10_measures_L2 (K : AH → Prop) (c32 : Nat → Int32 → AH → Prop) (x0 : Nat) (x1 : Int32) : Nat → Int32 → AH → Prop
  | 0 => fun _ _ => False
  | n + 1 => fun x2 h =>
  ((12 ≤ x2 → c32 x0 x1 h) ∧ (¬ 12 ≤ x2 → (isO h x0 7) ∧ (isA h (mR h x0 10) 0) ∧ (nZ ≤ (mR h x0 10)) ∧ (vp_in x2 (ln h (mR h x0 10))) ∧ ∀ h6, h6 = uI h (mR h x0 10) x2.toNatClampNeg 9999 → (isA h (mR h x0 11) 0) ∧ (nZ ≤ (mR h x0 11)) ∧ (vp_in x2 (ln h (mR h x0 11))) ∧ ∀ h10, h10 = uI h6 (mR h x0 11) x2.toNatClampNeg 9999 → wX10_measures_L2 K c32 x0 x1 n x0 x1 (x2 + 1) h10))
def wX10_measures_J178 (K : AH → Prop) (c81 : Nat → Int32 → Int32 → Int32 → Int32 → AH → Prop) (x0 : Nat) (x1 : Int32) (x2 : Int32) (x3 : Int32) (x4 : Int32) (x5 : Int32) (x6 : Int32) (h : AH) : Prop :=
  (isO h x0 7) ∧ (isA h (mR h x0 10) 0) ∧ (nZ ≤ (mR h x0 10)) ∧ (vp_in x3 (ln h (mR h x0 10))) ∧ ∀ h53, h53 = uI h (mR h x0 10) x3.toNatClampNeg x6 → (isA h (mR h x0 11) 0) ∧ (vp_in x5 (ln h (mR h x0 11))) ∧ (nZ ≤ (mR h x0 11)) ∧ (vp_in x3 (ln h (mR h x0 11))) ∧ ∀ h58, h58 = uI h53 (mR h x0 11) x3.toNatClampNeg (mI h53 (mR h x0 11) x5.toNatClampNeg + 1) → c81 x0 x1 x2 x3 (x4 + 1) h58
def wX10_measures_L81 (K : AH → Prop) (c207 : Nat → Int32 → Int32 → Int32 → AH → Prop) (x0 : Nat) (x1 : Int32) (x2 : Int32) (x3 : Int32) : Nat → Int32 → AH → Prop
  | 0 => fun _ _ => False
  | n + 1 => fun x4 h =>
  ((2 ≤ x4 → c207 x0 x1 x2 x3 h) ∧ (¬ 2 ≤ x4 → (isO h x0 7) ∧ wX10_exit x0 x3 x4 h (fun r34 h33 => ((r34 = (-1) → wX10_measures_L81 K c207 x0 x1 x2 x3 n x0 x1 x2 x3 (x4 + 1) h33) ∧ (¬ r34 = (-1) → (isO h33 x0 7) ∧ (isA h33 (mR h33 x0 10) 0) ∧ (vp_in r34 (ln h33 (mR h33 x0 10))) ∧ ((¬ mI h33 (mR h33 x0 10) r34.toNatClampNeg = 9999 → wX10_block x0 r34 0 h33 (fun r41 h40 => ∀ v42 : Int32, v42 = (mI h33 (mR h33 x0 10) r34.toNatClampNeg + r41) → (isO h40 x0 7) ∧ (isA h40 (mR h40 x0 10) 0) ∧ (vp_in x3 (ln h40 (mR h40 x0 10))) ∧ ((mI h40 (mR h40 x0 10) x3.toNatClampNeg < v42 → wX10_measures_L81 K c207 x0 x1 x2 x3 n x0 x1 x2 x3 (x4 + 1) h40) ∧ (¬ mI h40 (mR h40 x0 10) x3.toNatClampNeg < v42 → ((¬ v42 = mI h40 (mR h40 x0 10) x3.toNatClampNeg → (wX10_measures_J178 K (wX10_measures_L81 K c207 x0 x1 x2 x3 n) x0 x1 x2 x3 x4 r34 v42 h40)) ∧ (v42 = mI h40 (mR h40 x0 10) x3.toNatClampNeg → (isA h40 (mR h40 x0 11) 0) ∧ (vp_in r34 (ln h40 (mR h40 x0 11))) ∧ (vp_in x3 (ln h40 (mR h40 x0 11))) ∧ (((mI h40 (mR h40 x0 11) r34.toNatClampNeg + 1) < mI h40 (mR h40 x0 11) x3.toNatClampNeg → (wX10_measures_J178 K (wX10_measures_L81 K c207 x0 x1 x2 x3 n) x0 x1 x2 x3 x4 r34 v42 h40)) ∧ (¬ (mI h40 (mR h40 x0 11) r34.toNatClampNeg + 1) < mI h40 (mR h40 x0 11) x3.toNatClampNeg → wX10_measures_L81 K c207 x0 x1 x2 x3 n x0 x1 x2 x3 (x4 + 1) h40)))))))) ∧ (mI h33 (mR h33 x0 10) r34.toNatClampNeg = 9999 → wX10_measures_L81 K c207 x0 x1 x2 x3 n x0 x1 x2 x3 (x4 + 1) h33)))))))
def wX10_measures_L60 (K : AH → Prop) (c213 : Nat → Int32 → Int32 → AH → Prop) (x0 : Nat) (x1 : Int32) (x2 : Int32) : Nat → Int32 → AH → Prop
  | 0 => fun _ _ => False
  | n + 1 => fun x3 h =>
  (isO h x0 7) ∧ (isA h (mR h x0 1) 0) ∧ (vp_in 0 (ln h (mR h x0 1))) ∧ ((mI h (mR h x0 1) 0.toNatClampNeg ≤ x3 → c213 x0 x1 x2 h) ∧ (¬ mI h (mR h x0 1) 0.toNatClampNeg ≤ x3 → ((¬ x3 = x1 → (∃ n69, wX10_measures_L81 K (fun x0_64 x1_65 x2_66 x3_67 h68 => wX10_measures_L60 K c213 x0 x1 x2 n x0_64 x1_65 x2_66 (x3_67 + 1) h68) x0 x1 x2 x3 n69 0 h)) ∧ (x3 = x1 → wX10_measures_L60 K c213 x0 x1 x2 n x0 x1 x2 (x3 + 1) h))))
def wX10_measures_L48 (K : AH → Prop)  (x0 : Nat) (x1 : Int32) : Nat → Int32 → AH → Prop
  | 0 => fun _ _ => False
  | n + 1 => fun x2 h =>
  (isO h x0 7) ∧ (isA h (mR h x0 1) 0) ∧ (vp_in 0 (ln h (mR h x0 1))) ∧ ((mI h (mR h x0 1) 0.toNatClampNeg ≤ x2 → K h) ∧ (¬ mI h (mR h x0 1) 0.toNatClampNeg ≤ x2 → (∃ n74, wX10_measures_L60 K (fun x0_70 x1_71 x2_72 h73 => wX10_measures_L48 K  x0 x1 n x0_70 x1_71 (x2_72 + 1) h73) x0 x1 x2 n74 0 h)))
def wX10_measures (a0 : Nat) (a1 : Int32) (h : AH) (K : AH → Prop) : Prop :=
  (∃ n76, wX10_measures_L2 K (fun x0_11 x1_12 h13 => (isO h13 x0_11 7) ∧ (isA h13 (mR h13 x0_11 10) 0) ∧ (nZ ≤ (mR h13 x0_11 10)) ∧ (vp_in x1_12 (ln h13 (mR h13 x0_11 10))) ∧ ∀ h18, h18 = uI h13 (mR h13 x0_11 10) x1_12.toNatClampNeg 0 → (isA h13 (mR h13 x0_11 11) 0) ∧ (nZ ≤ (mR h13 x0_11 11)) ∧ (vp_in x1_12 (ln h13 (mR h13 x0_11 11))) ∧ ∀ h22, h22 = uI h18 (mR h13 x0_11 11) x1_12.toNatClampNeg 0 → (∃ n75, wX10_measures_L48 K x0_11 x1_12 n75 0 h22)) a0 a1 n76 0 h)
def wX10_leads_L49 (K : Int32 → AH → Prop) (c156 : Nat → Int32 → Int32 → Int32 → AH → Prop) (x0 : Nat) (x1 : Int32) (x2 : Int32) (x3 : Int32) : Nat → Int32 → Int32 → AH → Prop
  | 0 => fun _ _ _ => False
  | n + 1 => fun x4 x5 h =>
  ((2 ≤ x5 → c156 x0 x1 x2 x4 h) ∧ (¬ 2 ≤ x5 → (isO h x0 7) ∧ wX10_exit x0 x3 x5 h (fun r19 h18 => ((r19 = (-1) → wX10_leads_L49 K c156 x0 x1 x2 x3 n x0 x1 x2 x3 x4 (x5 + 1) h18) ∧ (¬ r19 = (-1) → (isO h18 x0 7) ∧ (isA h18 (mR h18 x0 10) 0) ∧ (vp_in r19 (ln h18 (mR h18 x0 10))) ∧ ((mI h18 (mR h18 x0 10) r19.toNatClampNeg = 9999 → wX10_leads_L49 K c156 x0 x1 x2 x3 n x0 x1 x2 x3 x4 (x5 + 1) h18) ∧ (¬ mI h18 (mR h18 x0 10) r19.toNatClampNeg = 9999 → wX10_block x0 r19 0 h18 (fun r26 h25 => (isO h25 x0 7) ∧ (isA h25 (mR h25 x0 10) 0) ∧ (vp_in x3 (ln h25 (mR h25 x0 10))) ∧ ((¬ (mI h18 (mR h18 x0 10) r19.toNatClampNeg + r26) = mI h25 (mR h25 x0 10) x3.toNatClampNeg → wX10_leads_L49 K c156 x0 x1 x2 x3 n x0 x1 x2 x3 x4 (x5 + 1) h25) ∧ ((mI h18 (mR h18 x0 10) r19.toNatClampNeg + r26) = mI h25 (mR h25 x0 10) x3.toNatClampNeg → (isA h25 (mR h25 x0 11) 0) ∧ (vp_in r19 (ln h25 (mR h25 x0 11))) ∧ (vp_in x3 (ln h25 (mR h25 x0 11))) ∧ (((mI h25 (mR h25 x0 11) r19.toNatClampNeg + 1) = mI h25 (mR h25 x0 11) x3.toNatClampNeg → ((x4 = (-1) → wX10_leads_L49 K c156 x0 x1 x2 x3 n x0 x1 x2 x3 r19 (x5 + 1) h25) ∧ (¬ x4 = (-1) → ((x4 ≤ r19 → wX10_leads_L49 K c156 x0 x1 x2 x3 n x0 x1 x2 x3 x4 (x5 + 1) h25) ∧ (¬ x4 ≤ r19 → wX10_leads_L49 K c156 x0 x1 x2 x3 n x0 x1 x2 x3 r19 (x5 + 1) h25))))) ∧ (¬ (mI h25 (mR h25 x0 11) r19.toNatClampNeg + 1) = mI h25 (mR h25 x0 11) x3.toNatClampNeg → wX10_leads_L49 K c156 x0 x1 x2 x3 n x0 x1 x2 x3 x4 (x5 + 1) h25))))))))))))
def wX10_leads_L38 (K : Int32 → AH → Prop)  (x0 : Nat) (x1 : Int32) (x2 : Int32) : Nat → Int32 → AH → Prop
  | 0 => fun _ _ => False
  | n + 1 => fun x3 h =>
  ((x3 = x2 → (isO h x0 7) ∧ (isA h (mR h x0 10) 0) ∧ (vp_in x1 (ln h (mR h x0 10))) ∧ K (mI h (mR h x0 10) x1.toNatClampNeg) h) ∧ (¬ x3 = x2 → (∃ n49, wX10_leads_L49 K (fun x0_38 x1_39 x2_40 x4_41 h42 => (isO h42 x0_38 7) ∧ (isA h42 (mR h42 x0_38 12) 0) ∧ (nZ ≤ (mR h42 x0_38 12)) ∧ (vp_in (mI h42 x0_38 20) (ln h42 (mR h42 x0_38 12))) ∧ ∀ h47, h47 = uI h42 (mR h42 x0_38 12) (mI h42 x0_38 20).toNatClampNeg x4_41 → ∀ h48, h48 = uI h47 x0_38 20 (mI h47 x0_38 20 + 1) → wX10_leads_L38 K  x0 x1 x2 n x0_38 x1_39 x2_40 x4_41 h48) x0 x1 x2 x3 n49 (-1) 0 h)))
def wX10_leads (a0 : Nat) (a1 : Int32) (a2 : Int32) (h : AH) (K : Int32 → AH → Prop) : Prop :=
  (isO h a0 7) ∧ wX10_measures a0 a2 h (fun h1 => (isO h1 a0 7) ∧ ∀ h4, h4 = uI h1 a0 20 0 → (isA h1 (mR h1 a0 10) 0) ∧ (vp_in a1 (ln h1 (mR h1 a0 10))) ∧ ((¬ mI h4 (mR h1 a0 10) a1.toNatClampNeg = 9999 → (isA h1 (mR h1 a0 12) 0) ∧ (nZ ≤ (mR h1 a0 12)) ∧ (vp_in 0 (ln h1 (mR h1 a0 12))) ∧ ∀ h11, h11 = uI h4 (mR h1 a0 12) 0.toNatClampNeg a1 → ∀ h12, h12 = uI h11 a0 20 1 → (∃ n50, wX10_leads_L38 K a0 a1 a2 n50 a1 h12)) ∧ (mI h4 (mR h1 a0 10) a1.toNatClampNeg = 9999 → K (-1) h4)))
def wX10_count_L13 (rec : Nat → Int32 → Int32 → Int32 → AH → (Int32 → AH → Prop) → Prop) (K : Int32 → AH → Prop)  (x0 : Nat) (x1 : Int32) (x2 : Int32) (x3 : Int32) : Nat → Int32 → Int32 → AH → Prop
  | 0 => fun _ _ _ => False
  | n + 1 => fun x4 x5 h =>
  ((2 ≤ x5 → K x4 h) ∧ (¬ 2 ≤ x5 → (isO h x0 7) ∧ wX10_exit x0 x1 x5 h (fun r4 h3 => ((r4 = (-1) → wX10_count_L13 rec K  x0 x1 x2 x3 n x0 x1 x2 x3 (x4 + 0) (x5 + 1) h3) ∧ (¬ r4 = (-1) → ((¬ ((x3 >>> (r4 &&& 31)) &&& 1) = 0 → wX10_count_L13 rec K  x0 x1 x2 x3 n x0 x1 x2 x3 (x4 + 0) (x5 + 1) h3) ∧ (((x3 >>> (r4 &&& 31)) &&& 1) = 0 → (isO h3 x0 7) ∧ rec x0 r4 x2 (x3 ||| (1 <<< (r4 &&& 31))) h3 (fun r8 h7 => wX10_count_L13 rec K  x0 x1 x2 x3 n x0 x1 x2 x3 (x4 + r8) (x5 + 1) h7))))))))
def wX10_count_b (rec : Nat → Int32 → Int32 → Int32 → AH → (Int32 → AH → Prop) → Prop) (a0 : Nat) (a1 : Int32) (a2 : Int32) (a3 : Int32) (h : AH) (K : Int32 → AH → Prop) : Prop :=
  ((¬ a1 = a2 → (∃ n11, wX10_count_L13 rec K a0 a1 a2 a3 n11 0 0 h)) ∧ (a1 = a2 → K 1 h))
def wX10_count : Nat → Nat → Int32 → Int32 → Int32 → AH → (Int32 → AH → Prop) → Prop
  | 0 => fun _ _ _ _ _ _ => False
  | d + 1 => wX10_count_b (wX10_count d)
def wX10_hindered_L24 (K : Int32 → AH → Prop)  (x0 : Nat) : Nat → Int32 → AH → Prop
  | 0 => fun _ _ => False
  | n + 1 => fun x2 h =>
  (isO h x0 7) ∧ ((mI h x0 20 ≤ x2 → K (-1) h) ∧ (¬ mI h x0 20 ≤ x2 → (isA h (mR h x0 12) 0) ∧ (vp_in x2 (ln h (mR h x0 12))) ∧ wX10_look x0 (mI h (mR h x0 12) x2.toNatClampNeg) h (fun r13 h12 => ((r13 = 102 → wX10_hindered_L24 K  x0 n x0 (x2 + 1) h12) ∧ (¬ r13 = 102 → K x2 h12)))))
def wX10_hindered (a0 : Nat) (a1 : Int32) (h : AH) (K : Int32 → AH → Prop) : Prop :=
  (isO h a0 7) ∧ wX10_train a0 a1 1 h (fun r2 h1 => (isO h1 a0 7) ∧ wX10_train a0 a1 2 h1 (fun r4 h3 => (isO h3 a0 7) ∧ wX10_leads a0 r2 r4 h3 (fun r6 h5 => ((¬ r6 = (-1) → (∃ n15, wX10_hindered_L24 K a0 n15 1 h5)) ∧ (r6 = (-1) → K 0 h5)))))
def wX10_isFree (a0 : Nat) (a1 : Int32) (h : AH) (K : Int32 → AH → Prop) : Prop :=
  (isO h a0 7) ∧ wX10_train a0 a1 3 h (fun r2 h1 => ((¬ r2 = 0 → K 0 h1) ∧ (r2 = 0 → (isO h1 a0 7) ∧ wX10_hindered a0 a1 h1 (fun r5 h4 => ((¬ r5 = (-1) → K 0 h4) ∧ (r5 = (-1) → K 1 h4))))))
def wX10_pointAt (a0 : Nat) (a1 : Int32) (h : AH) (K : Int32 → AH → Prop) : Prop :=
  (isO h a0 7) ∧ wX10_block a0 a1 3 h (fun r2 h1 => K (r2 - 1) h1)
def wX10_unqueues_L2 (K : AH → Prop) (c22 : Nat → Int32 → AH → Prop) (x0 : Nat) (x1 : Int32) : Nat → Int32 → AH → Prop
  | 0 => fun _ _ => False
  | n + 1 => fun x2 h =>
  (isO h x0 7) ∧ (isA h (mR h x0 1) 0) ∧ (vp_in (273 + x2) (ln h (mR h x0 1))) ∧ ((mI h (mR h x0 1) (273 + x2).toNatClampNeg = x1 → c22 x0 x2 h) ∧ (¬ mI h (mR h x0 1) (273 + x2).toNatClampNeg = x1 → wX10_unqueues_L2 K c22 x0 x1 n x0 x1 (x2 + 1) h))
def wX10_unqueues_L24 (K : AH → Prop)  (x0 : Nat) : Nat → Int32 → AH → Prop
  | 0 => fun _ _ => False
  | n + 1 => fun x3 h =>
  (isO h x0 7) ∧ (isA h (mR h x0 1) 0) ∧ (vp_in 5 (ln h (mR h x0 1))) ∧ (((mI h (mR h x0 1) 5.toNatClampNeg - 1) ≤ x3 → (nZ ≤ (mR h x0 1)) ∧ ∀ h13, h13 = uI h (mR h x0 1) 5.toNatClampNeg (mI h (mR h x0 1) 5.toNatClampNeg - 1) → (vp_in (273 + mI h13 (mR h x0 1) 5.toNatClampNeg) (ln h (mR h x0 1))) ∧ ∀ h15, h15 = uI h13 (mR h x0 1) (273 + mI h13 (mR h x0 1) 5.toNatClampNeg).toNatClampNeg 0 → K h15) ∧ (¬ (mI h (mR h x0 1) 5.toNatClampNeg - 1) ≤ x3 → (vp_in ((273 + x3) + 1) (ln h (mR h x0 1))) ∧ (nZ ≤ (mR h x0 1)) ∧ (vp_in (273 + x3) (ln h (mR h x0 1))) ∧ ∀ h19, h19 = uI h (mR h x0 1) (273 + x3).toNatClampNeg (mI h (mR h x0 1) ((273 + x3) + 1).toNatClampNeg) → wX10_unqueues_L24 K  x0 n x0 (x3 + 1) h19))
def wX10_unqueues (a0 : Nat) (a1 : Int32) (h : AH) (K : AH → Prop) : Prop :=
  (∃ n21, wX10_unqueues_L2 K (fun x0_5 x2_6 h7 => (∃ n20, wX10_unqueues_L24 K x0_5 n20 x2_6 h7)) a0 a1 n21 0 h)
def wX10_enqueues (a0 : Nat) (a1 : Int32) (h : AH) (K : AH → Prop) : Prop :=
  (isO h a0 7) ∧ (isA h (mR h a0 1) 0) ∧ (vp_in 5 (ln h (mR h a0 1))) ∧ (nZ ≤ (mR h a0 1)) ∧ (vp_in (273 + mI h (mR h a0 1) 5.toNatClampNeg) (ln h (mR h a0 1))) ∧ ∀ h6, h6 = uI h (mR h a0 1) (273 + mI h (mR h a0 1) 5.toNatClampNeg).toNatClampNeg a1 → ∀ h7, h7 = uI h6 (mR h a0 1) 5.toNatClampNeg (mI h6 (mR h a0 1) 5.toNatClampNeg + 1) → K h7
def wX10_sets_J143 (K : Int32 → AH → Prop) (c27 : Nat → Int32 → Int32 → Int32 → Int32 → AH → Prop) (x0 : Nat) (x1 : Int32) (x2 : Int32) (x3 : Int32) (x4 : Int32) (x5 : Int32) (y0 : Nat) (y1 : Int32) (y2 : Int32) (h : AH) : Prop :=
  (isA h y0 0) ∧ (nZ ≤ y0) ∧ (vp_in y1 (ln h y0)) ∧ ∀ h51, h51 = uI h y0 y1.toNatClampNeg y2 → (isO h x0 7) ∧ (isA h (mR h x0 1) 0) ∧ (nZ ≤ (mR h x0 1)) ∧ (vp_in ((81 + (5 * x5)) + 4) (ln h (mR h x0 1))) ∧ ∀ h56, h56 = uI h51 (mR h x0 1) ((81 + (5 * x5)) + 4).toNatClampNeg (x3 + 1) → c27 x0 x1 x2 x3 (x4 + 1) h56
def wX10_sets_J73 (K : Int32 → AH → Prop) (c27 : Nat → Int32 → Int32 → Int32 → Int32 → AH → Prop) (x0 : Nat) (x1 : Int32) (x2 : Int32) (x3 : Int32) (x4 : Int32) (h : AH) : Prop :=
  (isO h x0 7) ∧ (isA h (mR h x0 12) 0) ∧ (vp_in x4 (ln h (mR h x0 12))) ∧ wX10_pointAt x0 (mI h (mR h x0 12) x4.toNatClampNeg) h (fun r38 h37 => (isO h37 x0 7) ∧ ((x4 = (mI h37 x0 20 - 1) → c27 x0 x1 x2 x3 (x4 + 1) h37) ∧ (¬ x4 = (mI h37 x0 20 - 1) → ((¬ r38 = (-1) → wX10_point x0 r38 1 h37 (fun r43 h42 => (isO h42 x0 7) ∧ (isA h42 (mR h42 x0 12) 0) ∧ (vp_in (x4 + 1) (ln h42 (mR h42 x0 12))) ∧ ((¬ r43 = mI h42 (mR h42 x0 12) (x4 + 1).toNatClampNeg → (wX10_sets_J143 K c27 x0 x1 x2 x3 x4 r38 (mR h37 x0 1) ((81 + (5 * r38)) + 3) 1 h42)) ∧ (r43 = mI h42 (mR h42 x0 12) (x4 + 1).toNatClampNeg → (wX10_sets_J143 K c27 x0 x1 x2 x3 x4 r38 (mR h37 x0 1) ((81 + (5 * r38)) + 3) 0 h42))))) ∧ (r38 = (-1) → c27 x0 x1 x2 x3 (x4 + 1) h37)))))
def wX10_sets_L27 (K : Int32 → AH → Prop)  (x0 : Nat) (x1 : Int32) (x2 : Int32) (x3 : Int32) : Nat → Int32 → AH → Prop
  | 0 => fun _ _ => False
  | n + 1 => fun x4 h =>
  (isO h x0 7) ∧ ((mI h x0 20 ≤ x4 → wX10_tells x0 x1 6 (mI h x0 20) h (fun h11 => (isO h11 x0 7) ∧ wX10_tells x0 x1 3 1 h11 (fun h13 => (isO h13 x0 7) ∧ (isA h13 (mR h13 x0 1) 0) ∧ (vp_in 6 (ln h13 (mR h13 x0 1))) ∧ (isA h13 (mR h13 x0 12) 0) ∧ (vp_in 1 (ln h13 (mR h13 x0 12))) ∧ wX10_block x0 (mI h13 (mR h13 x0 12) 1.toNatClampNeg) 0 h13 (fun r21 h20 => (isO h20 x0 7) ∧ wX10_tells x0 x1 4 (mI h13 (mR h13 x0 1) 6.toNatClampNeg + r21) h20 (fun h22 => (isO h22 x0 7) ∧ wX10_unqueues x0 x3 h22 (fun h24 => K x2 h24)))))) ∧ (¬ mI h x0 20 ≤ x4 → (isA h (mR h x0 12) 0) ∧ (vp_in x4 (ln h (mR h x0 12))) ∧ wX10_tells x0 x1 (7 + x4) (mI h (mR h x0 12) x4.toNatClampNeg) h (fun h31 => ((x4 ≤ 0 → (wX10_sets_J73 K (wX10_sets_L27 K  x0 x1 x2 x3 n) x0 x1 x2 x3 x4 h31)) ∧ (¬ x4 ≤ 0 → (isO h31 x0 7) ∧ (isA h31 (mR h31 x0 12) 0) ∧ (vp_in x4 (ln h31 (mR h31 x0 12))) ∧ wX10_puts x0 (mI h31 (mR h31 x0 12) x4.toNatClampNeg) 5 (x3 + 1) h31 (fun h60 => (wX10_sets_J73 K (wX10_sets_L27 K  x0 x1 x2 x3 n) x0 x1 x2 x3 x4 h60)))))))
def wX10_sets (a0 : Nat) (a1 : Int32) (h : AH) (K : Int32 → AH → Prop) : Prop :=
  (isO h a0 7) ∧ wX10_train a0 a1 1 h (fun r2 h1 => (isO h1 a0 7) ∧ wX10_train a0 a1 2 h1 (fun r4 h3 => (isO h3 a0 7) ∧ wX10_leads a0 r2 r4 h3 (fun r6 h5 => (isO h5 a0 7) ∧ wX10_train a0 a1 0 h5 (fun r8 h7 => (∃ n62, wX10_sets_L27 K a0 a1 r6 r8 n62 0 h7)))))
def wX10_unlocks (a0 : Nat) (a1 : Int32) (h : AH) (K : AH → Prop) : Prop :=
  (isO h a0 7) ∧ wX10_pointAt a0 a1 h (fun r2 h1 => ((r2 = (-1) → K h1) ∧ (¬ r2 = (-1) → (isO h1 a0 7) ∧ wX10_pointAt a0 a1 h1 (fun r6 h5 => (isA h5 (mR h1 a0 1) 0) ∧ (nZ ≤ (mR h1 a0 1)) ∧ (vp_in ((81 + (5 * r6)) + 4) (ln h5 (mR h1 a0 1))) ∧ ∀ h10, h10 = uI h5 (mR h1 a0 1) ((81 + (5 * r6)) + 4).toNatClampNeg 0 → K h10))))
def wX10_enters_L70 (K : Int32 → AH → Prop)  (x0 : Nat) (x1 : Int32) : Nat → Int32 → AH → Prop
  | 0 => fun _ _ => False
  | n + 1 => fun x4 h =>
  (isO h x0 7) ∧ wX10_train x0 x1 6 h (fun r21 h20 => ((r21 ≤ (x4 + 1) → (isO h20 x0 7) ∧ wX10_train x0 x1 6 h20 (fun r24 h23 => (isO h23 x0 7) ∧ wX10_tells x0 x1 6 (r24 - 1) h23 (fun h25 => (isO h25 x0 7) ∧ (isA h25 (mR h25 x0 1) 0) ∧ (vp_in 6 (ln h25 (mR h25 x0 1))) ∧ wX10_train x0 x1 8 h25 (fun r31 h30 => (isO h30 x0 7) ∧ wX10_block x0 r31 0 h30 (fun r33 h32 => (isO h32 x0 7) ∧ wX10_tells x0 x1 4 (mI h25 (mR h25 x0 1) 6.toNatClampNeg + r33) h32 (fun h34 => K 0 h34)))))) ∧ (¬ r21 ≤ (x4 + 1) → (isO h20 x0 7) ∧ wX10_train x0 x1 ((7 + x4) + 1) h20 (fun r41 h40 => (isO h40 x0 7) ∧ wX10_tells x0 x1 (7 + x4) r41 h40 (fun h42 => wX10_enters_L70 K  x0 x1 n x0 x1 (x4 + 1) h42)))))
def wX10_enters (a0 : Nat) (a1 : Int32) (h : AH) (K : Int32 → AH → Prop) : Prop :=
  (isO h a0 7) ∧ wX10_train a0 a1 1 h (fun r2 h1 => (isO h1 a0 7) ∧ wX10_train a0 a1 8 h1 (fun r4 h3 => (isO h3 a0 7) ∧ wX10_puts a0 r2 4 0 h3 (fun h5 => (isO h5 a0 7) ∧ wX10_unlocks a0 r2 h5 (fun h7 => (isO h7 a0 7) ∧ wX10_puts a0 r4 5 0 h7 (fun h9 => (isO h9 a0 7) ∧ wX10_train a0 a1 2 h9 (fun r12 h11 => ((¬ r4 = r12 → (isO h11 a0 7) ∧ wX10_train a0 a1 0 h11 (fun r15 h14 => (isO h14 a0 7) ∧ wX10_puts a0 r4 4 (r15 + 1) h14 (fun h16 => (isO h16 a0 7) ∧ wX10_tells a0 a1 1 r4 h16 (fun h18 => (∃ n47, wX10_enters_L70 K a0 a1 n47 0 h18))))) ∧ (r4 = r12 → K 1 h11))))))))
def wX10_leaves_L14 (K : AH → Prop) (c49 : Nat → Int32 → AH → Prop) (x0 : Nat) (x2 : Int32) : Nat → Int32 → AH → Prop
  | 0 => fun _ _ => False
  | n + 1 => fun x3 h =>
  (((19 * x2) ≤ x3 → c49 x0 x2 h) ∧ (¬ (19 * x2) ≤ x3 → (isO h x0 7) ∧ (isA h (mR h x0 1) 0) ∧ (vp_in ((121 + x3) + 19) (ln h (mR h x0 1))) ∧ (nZ ≤ (mR h x0 1)) ∧ (vp_in (121 + x3) (ln h (mR h x0 1))) ∧ ∀ h12, h12 = uI h (mR h x0 1) (121 + x3).toNatClampNeg (mI h (mR h x0 1) ((121 + x3) + 19).toNatClampNeg) → wX10_leaves_L14 K c49 x0 x2 n x0 x2 (x3 + 1) h12))
def wX10_leaves_L51 (K : AH → Prop)  (x0 : Nat) (x2 : Int32) : Nat → Int32 → AH → Prop
  | 0 => fun _ _ => False
  | n + 1 => fun x3 h =>
  ((19 ≤ x3 → (isO h x0 7) ∧ (isA h (mR h x0 1) 0) ∧ (nZ ≤ (mR h x0 1)) ∧ (vp_in 4 (ln h (mR h x0 1))) ∧ ∀ h21, h21 = uI h (mR h x0 1) 4.toNatClampNeg x2 → (vp_in 7 (ln h (mR h x0 1))) ∧ ∀ h23, h23 = uI h21 (mR h x0 1) 7.toNatClampNeg (mI h21 (mR h x0 1) 7.toNatClampNeg + 1) → K h23) ∧ (¬ 19 ≤ x3 → (isO h x0 7) ∧ (isA h (mR h x0 1) 0) ∧ (nZ ≤ (mR h x0 1)) ∧ (vp_in ((121 + (19 * x2)) + x3) (ln h (mR h x0 1))) ∧ ∀ h28, h28 = uI h (mR h x0 1) ((121 + (19 * x2)) + x3).toNatClampNeg 0 → wX10_leaves_L51 K  x0 x2 n x0 x2 (x3 + 1) h28))
def wX10_leaves (a0 : Nat) (a1 : Int32) (h : AH) (K : AH → Prop) : Prop :=
  (isO h a0 7) ∧ (isA h (mR h a0 1) 0) ∧ (vp_in 4 (ln h (mR h a0 1))) ∧ ∀ v4 : Int32, v4 = (mI h (mR h a0 1) 4.toNatClampNeg - 1) → (∃ n30, wX10_leaves_L14 K (fun x0_13 x2_14 h15 => (∃ n29, wX10_leaves_L51 K x0_13 x2_14 n29 0 h15)) a0 v4 n30 (19 * a1) h)
def wX10_oneMinute_L13 (K : AH → Prop) (c71 : Nat → AH → Prop) (x0 : Nat) : Nat → Int32 → AH → Prop
  | 0 => fun _ _ => False
  | n + 1 => fun x1 h =>
  (isO h x0 7) ∧ (isA h (mR h x0 1) 0) ∧ (vp_in 4 (ln h (mR h x0 1))) ∧ ((mI h (mR h x0 1) 4.toNatClampNeg ≤ x1 → c71 x0 h) ∧ (¬ mI h (mR h x0 1) 4.toNatClampNeg ≤ x1 → wX10_train x0 x1 3 h (fun r11 h10 => ((¬ r11 = 1 → wX10_oneMinute_L13 K c71 x0 n x0 (x1 + 1) h10) ∧ (r11 = 1 → (isO h10 x0 7) ∧ wX10_train x0 x1 4 h10 (fun r14 h13 => (isO h13 x0 7) ∧ (isA h13 (mR h13 x0 1) 0) ∧ (vp_in 6 (ln h13 (mR h13 x0 1))) ∧ ((¬ r14 = mI h13 (mR h13 x0 1) 6.toNatClampNeg → wX10_oneMinute_L13 K c71 x0 n x0 (x1 + 1) h13) ∧ (r14 = mI h13 (mR h13 x0 1) 6.toNatClampNeg → wX10_enters x0 x1 h13 (fun r20 h19 => ((r20 = 0 → wX10_oneMinute_L13 K c71 x0 n x0 (x1 + 1) h19) ∧ (¬ r20 = 0 → (isO h19 x0 7) ∧ wX10_leaves x0 x1 h19 (fun h22 => wX10_oneMinute_L13 K c71 x0 n x0 x1 h22))))))))))))
def wX10_oneMinute_L73 (K : AH → Prop)  (x0 : Nat) : Nat → Int32 → AH → Prop
  | 0 => fun _ _ => False
  | n + 1 => fun x2 h =>
  (isO h x0 7) ∧ (isA h (mR h x0 1) 0) ∧ (vp_in 5 (ln h (mR h x0 1))) ∧ ((mI h (mR h x0 1) 5.toNatClampNeg ≤ x2 → K h) ∧ (¬ mI h (mR h x0 1) 5.toNatClampNeg ≤ x2 → (vp_in (273 + x2) (ln h (mR h x0 1))) ∧ wX10_placeOf x0 (mI h (mR h x0 1) (273 + x2).toNatClampNeg) h (fun r34 h33 => (isO h33 x0 7) ∧ wX10_isFree x0 r34 h33 (fun r36 h35 => ((r36 = 0 → (isO h35 x0 7) ∧ wX10_train x0 r34 5 h35 (fun r39 h38 => (isO h38 x0 7) ∧ wX10_tells x0 r34 5 (r39 + 1) h38 (fun h40 => (isO h40 x0 7) ∧ (isA h40 (mR h40 x0 1) 0) ∧ (vp_in 8 (ln h40 (mR h40 x0 1))) ∧ (nZ ≤ (mR h40 x0 1)) ∧ ∀ h46, h46 = uI h40 (mR h40 x0 1) 8.toNatClampNeg (mI h40 (mR h40 x0 1) 8.toNatClampNeg + 1) → wX10_oneMinute_L73 K  x0 n x0 (x2 + 1) h46))) ∧ (¬ r36 = 0 → (isO h35 x0 7) ∧ wX10_sets x0 r34 h35 (fun r50 h49 => wX10_oneMinute_L73 K  x0 n x0 x2 h49)))))))
def wX10_oneMinute (a0 : Nat) (h : AH) (K : AH → Prop) : Prop :=
  (isO h a0 7) ∧ (isA h (mR h a0 1) 0) ∧ (vp_in 6 (ln h (mR h a0 1))) ∧ (nZ ≤ (mR h a0 1)) ∧ ∀ h5, h5 = uI h (mR h a0 1) 6.toNatClampNeg (mI h (mR h a0 1) 6.toNatClampNeg + 1) → (∃ n54, wX10_oneMinute_L13 K (fun x0_26 h27 => (∃ n53, wX10_oneMinute_L73 K x0_26 n53 0 h27)) a0 n54 0 h5)
def wX10_lays (a0 : Nat) (a1 : Int32) (h : AH) (K : Int32 → AH → Prop) : Prop :=
  wX10_in a1 1 9 h (fun r2 h1 => ((¬ r2 = 0 → (isO h1 a0 7) ∧ (isA h1 (mR h1 a0 1) 0) ∧ (vp_in 0 (ln h1 (mR h1 a0 1))) ∧ ((¬ mI h1 (mR h1 a0 1) 0.toNatClampNeg = 12 → wX10_puts a0 (mI h1 (mR h1 a0 1) 0.toNatClampNeg) 0 a1 h1 (fun h8 => (isO h8 a0 7) ∧ (isA h8 (mR h8 a0 1) 0) ∧ (nZ ≤ (mR h8 a0 1)) ∧ (vp_in 0 (ln h8 (mR h8 a0 1))) ∧ ∀ h14, h14 = uI h8 (mR h8 a0 1) 0.toNatClampNeg (mI h1 (mR h1 a0 1) 0.toNatClampNeg + 1) → wX10_done a0 (mI h1 (mR h1 a0 1) 0.toNatClampNeg) h14 (fun r16 h15 => K r16 h15))) ∧ (mI h1 (mR h1 a0 1) 0.toNatClampNeg = 12 → K 2 h1))) ∧ (r2 = 0 → K 1 h1)))
def wX10_forks (a0 : Nat) (a1 : Int32) (a2 : Int32) (a3 : Int32) (h : AH) (K : Int32 → AH → Prop) : Prop :=
  (isO h a0 7) ∧ wX10_isBlock a0 a1 h (fun r2 h1 => ((r2 = 0 → K 1 h1) ∧ (¬ r2 = 0 → (isO h1 a0 7) ∧ wX10_isBlock a0 a2 h1 (fun r5 h4 => ((r5 = 0 → K 1 h4) ∧ (¬ r5 = 0 → (isO h4 a0 7) ∧ wX10_isBlock a0 a3 h4 (fun r8 h7 => ((¬ r8 = 0 → ((a1 = a2 → K 2 h7) ∧ (¬ a1 = a2 → ((a1 = a3 → K 2 h7) ∧ (¬ a1 = a3 → ((¬ a2 = a3 → (isO h7 a0 7) ∧ (isA h7 (mR h7 a0 1) 0) ∧ (vp_in 1 (ln h7 (mR h7 a0 1))) ∧ ((mI h7 (mR h7 a0 1) 1.toNatClampNeg = 8 → K 3 h7) ∧ (¬ mI h7 (mR h7 a0 1) 1.toNatClampNeg = 8 → wX10_block a0 a1 3 h7 (fun r18 h17 => ((0 < r18 → K 3 h17) ∧ (¬ 0 < r18 → (isO h17 a0 7) ∧ wX10_block a0 a1 2 h17 (fun r21 h20 => ((r21 ≤ 0 → (isO h20 a0 7) ∧ (isA h20 (mR h20 a0 1) 0) ∧ (nZ ≤ (mR h20 a0 1)) ∧ (vp_in ((81 + (5 * mI h7 (mR h7 a0 1) 1.toNatClampNeg)) + 0) (ln h20 (mR h20 a0 1))) ∧ ∀ h27, h27 = uI h20 (mR h20 a0 1) ((81 + (5 * mI h7 (mR h7 a0 1) 1.toNatClampNeg)) + 0).toNatClampNeg a1 → (vp_in ((81 + (5 * mI h7 (mR h7 a0 1) 1.toNatClampNeg)) + 1) (ln h20 (mR h20 a0 1))) ∧ ∀ h29, h29 = uI h27 (mR h20 a0 1) ((81 + (5 * mI h7 (mR h7 a0 1) 1.toNatClampNeg)) + 1).toNatClampNeg a2 → (vp_in ((81 + (5 * mI h7 (mR h7 a0 1) 1.toNatClampNeg)) + 2) (ln h20 (mR h20 a0 1))) ∧ ∀ h31, h31 = uI h29 (mR h20 a0 1) ((81 + (5 * mI h7 (mR h7 a0 1) 1.toNatClampNeg)) + 2).toNatClampNeg a3 → wX10_puts a0 a1 3 (mI h7 (mR h7 a0 1) 1.toNatClampNeg + 1) h31 (fun h32 => (isO h32 a0 7) ∧ (isA h32 (mR h32 a0 1) 0) ∧ (nZ ≤ (mR h32 a0 1)) ∧ (vp_in 1 (ln h32 (mR h32 a0 1))) ∧ ∀ h38, h38 = uI h32 (mR h32 a0 1) 1.toNatClampNeg (mI h7 (mR h7 a0 1) 1.toNatClampNeg + 1) → wX10_done a0 (mI h7 (mR h7 a0 1) 1.toNatClampNeg) h38 (fun r40 h39 => K r40 h39))) ∧ (¬ r21 ≤ 0 → K 3 h20))))))))) ∧ (a2 = a3 → K 2 h7))))))) ∧ (r8 = 0 → K 1 h7)))))))))
def wX10_links (a0 : Nat) (a1 : Int32) (a2 : Int32) (h : AH) (K : Int32 → AH → Prop) : Prop :=
  (isO h a0 7) ∧ wX10_isBlock a0 a1 h (fun r2 h1 => ((r2 = 0 → K 1 h1) ∧ (¬ r2 = 0 → (isO h1 a0 7) ∧ wX10_isBlock a0 a2 h1 (fun r5 h4 => ((¬ r5 = 0 → ((¬ a1 = a2 → (isO h4 a0 7) ∧ wX10_block a0 a1 3 h4 (fun r9 h8 => ((0 < r9 → K 3 h8) ∧ (¬ 0 < r9 → (isO h8 a0 7) ∧ wX10_block a0 a1 2 h8 (fun r12 h11 => ((r12 ≤ 0 → (isO h11 a0 7) ∧ wX10_puts a0 a1 2 (a2 + 1) h11 (fun h14 => (isO h14 a0 7) ∧ (isA h14 (mR h14 a0 1) 0) ∧ (vp_in 2 (ln h14 (mR h14 a0 1))) ∧ (nZ ≤ (mR h14 a0 1)) ∧ ∀ h20, h20 = uI h14 (mR h14 a0 1) 2.toNatClampNeg (mI h14 (mR h14 a0 1) 2.toNatClampNeg + 1) → wX10_done a0 (mI h20 (mR h14 a0 1) 2.toNatClampNeg) h20 (fun r22 h21 => K r22 h21))) ∧ (¬ r12 ≤ 0 → K 3 h11))))))) ∧ (a1 = a2 → K 2 h4))) ∧ (r5 = 0 → K 1 h4))))))
def wX10_shuts (a0 : Nat) (a1 : Int32) (h : AH) (K : Int32 → AH → Prop) : Prop :=
  (isO h a0 7) ∧ wX10_isBlock a0 a1 h (fun r2 h1 => ((¬ r2 = 0 → (isO h1 a0 7) ∧ wX10_block a0 a1 1 h1 (fun r5 h4 => ((r5 = 1 → K 2 h4) ∧ (¬ r5 = 1 → (isO h4 a0 7) ∧ wX10_block a0 a1 5 h4 (fun r8 h7 => ((r8 ≤ 0 → (isO h7 a0 7) ∧ wX10_puts a0 a1 1 1 h7 (fun h10 => (isO h10 a0 7) ∧ wX10_shutMany a0 h10 (fun r13 h12 => (isO h12 a0 7) ∧ wX10_done a0 r13 h12 (fun r15 h14 => K r15 h14)))) ∧ (¬ r8 ≤ 0 → K 2 h7))))))) ∧ (r2 = 0 → K 1 h1)))
def wX10_opens (a0 : Nat) (a1 : Int32) (h : AH) (K : Int32 → AH → Prop) : Prop :=
  (isO h a0 7) ∧ wX10_isBlock a0 a1 h (fun r2 h1 => ((¬ r2 = 0 → (isO h1 a0 7) ∧ wX10_block a0 a1 1 h1 (fun r5 h4 => ((¬ r5 = 0 → (isO h4 a0 7) ∧ wX10_puts a0 a1 1 0 h4 (fun h7 => (isO h7 a0 7) ∧ wX10_shutMany a0 h7 (fun r10 h9 => (isO h9 a0 7) ∧ wX10_done a0 r10 h9 (fun r12 h11 => K r12 h11)))) ∧ (r5 = 0 → K 2 h4)))) ∧ (r2 = 0 → K 1 h1)))
def wX10_throwsOver (a0 : Nat) (a1 : Int32) (h : AH) (K : Int32 → AH → Prop) : Prop :=
  (isO h a0 7) ∧ wX10_isPoint a0 a1 h (fun r2 h1 => ((¬ r2 = 0 → (isO h1 a0 7) ∧ wX10_point a0 a1 4 h1 (fun r5 h4 => ((r5 ≤ 0 → (isO h4 a0 7) ∧ wX10_point a0 a1 3 h4 (fun r9 h8 => (isA h8 (mR h4 a0 1) 0) ∧ (nZ ≤ (mR h4 a0 1)) ∧ (vp_in ((81 + (5 * a1)) + 3) (ln h8 (mR h4 a0 1))) ∧ ∀ h13, h13 = uI h8 (mR h4 a0 1) ((81 + (5 * a1)) + 3).toNatClampNeg (1 - r9) → (isO h8 a0 7) ∧ wX10_point a0 a1 3 h13 (fun r15 h14 => (isO h14 a0 7) ∧ wX10_done a0 (1 - r15) h14 (fun r17 h16 => K r17 h16)))) ∧ (¬ r5 ≤ 0 → K 2 h4)))) ∧ (r2 = 0 → K 1 h1)))
def wX10_comes (a0 : Nat) (a1 : Int32) (a2 : Int32) (h : AH) (K : Int32 → AH → Prop) : Prop :=
  (isO h a0 7) ∧ wX10_isBlock a0 a1 h (fun r2 h1 => ((r2 = 0 → K 1 h1) ∧ (¬ r2 = 0 → (isO h1 a0 7) ∧ wX10_isBlock a0 a2 h1 (fun r5 h4 => ((¬ r5 = 0 → ((¬ a1 = a2 → (isO h4 a0 7) ∧ (isA h4 (mR h4 a0 1) 0) ∧ (vp_in 4 (ln h4 (mR h4 a0 1))) ∧ ((mI h4 (mR h4 a0 1) 4.toNatClampNeg = 8 → K 3 h4) ∧ (¬ mI h4 (mR h4 a0 1) 4.toNatClampNeg = 8 → wX10_look a0 a1 h4 (fun r13 h12 => ((r13 = 102 → (isO h12 a0 7) ∧ (isA h12 (mR h12 a0 1) 0) ∧ (vp_in 3 (ln h12 (mR h12 a0 1))) ∧ wX10_tells a0 (mI h4 (mR h4 a0 1) 4.toNatClampNeg) 0 (mI h12 (mR h12 a0 1) 3.toNatClampNeg) h12 (fun h18 => (isO h18 a0 7) ∧ wX10_tells a0 (mI h4 (mR h4 a0 1) 4.toNatClampNeg) 1 a1 h18 (fun h20 => (isO h20 a0 7) ∧ wX10_tells a0 (mI h4 (mR h4 a0 1) 4.toNatClampNeg) 2 a2 h20 (fun h22 => (isO h22 a0 7) ∧ (isA h22 (mR h22 a0 1) 0) ∧ (nZ ≤ (mR h22 a0 1)) ∧ (vp_in 4 (ln h22 (mR h22 a0 1))) ∧ ∀ h28, h28 = uI h22 (mR h22 a0 1) 4.toNatClampNeg (mI h4 (mR h4 a0 1) 4.toNatClampNeg + 1) → (vp_in 3 (ln h22 (mR h22 a0 1))) ∧ ∀ h30, h30 = uI h28 (mR h22 a0 1) 3.toNatClampNeg (mI h28 (mR h22 a0 1) 3.toNatClampNeg + 1) → wX10_puts a0 a1 4 (mI h12 (mR h12 a0 1) 3.toNatClampNeg + 1) h30 (fun h31 => (isO h31 a0 7) ∧ wX10_enqueues a0 (mI h12 (mR h12 a0 1) 3.toNatClampNeg) h31 (fun h33 => (isO h33 a0 7) ∧ wX10_done a0 (mI h12 (mR h12 a0 1) 3.toNatClampNeg) h33 (fun r36 h35 => K r36 h35))))))) ∧ (¬ r13 = 102 → K 3 h12)))))) ∧ (a1 = a2 → K 2 h4))) ∧ (r5 = 0 → K 1 h4))))))
def wX10_clears_J84 (K : Int32 → AH → Prop)  (y0 : Nat) (y1 : Int32) (h : AH) : Prop :=
  (isO h y0 7) ∧ ∀ h23, h23 = uI h y0 22 y1 → K 3 h23
def wX10_clears_J66 (K : Int32 → AH → Prop)  (x0 : Nat) (x3 : Int32) (y0 : Nat) (y1 : Int32) (h : AH) : Prop :=
  (isO h y0 7) ∧ ∀ h17, h17 = uI h y0 21 y1 → ((¬ x3 = 0 → (isO h x0 7) ∧ (isA h (mR h x0 12) 0) ∧ (vp_in x3 (ln h (mR h x0 12))) ∧ (wX10_clears_J84 K x0 (mI h17 (mR h x0 12) x3.toNatClampNeg) h17)) ∧ (x3 = 0 → (wX10_clears_J84 K x0 (-1) h17)))
def wX10_clears (a0 : Nat) (a1 : Int32) (h : AH) (K : Int32 → AH → Prop) : Prop :=
  (isO h a0 7) ∧ wX10_placeOf a0 a1 h (fun r2 h1 => ((¬ r2 = (-1) → (isO h1 a0 7) ∧ wX10_train a0 r2 3 h1 (fun r5 h4 => ((¬ r5 = 1 → (isO h4 a0 7) ∧ wX10_hindered a0 r2 h4 (fun r8 h7 => ((¬ r8 = (-1) → ((¬ r8 = 0 → (isO h7 a0 7) ∧ (isA h7 (mR h7 a0 12) 0) ∧ (vp_in r8 (ln h7 (mR h7 a0 12))) ∧ wX10_look a0 (mI h7 (mR h7 a0 12) r8.toNatClampNeg) h7 (fun r15 h14 => (wX10_clears_J66 K a0 r8 a0 r15 h14))) ∧ (r8 = 0 → (wX10_clears_J66 K a0 r8 a0 110 h7)))) ∧ (r8 = (-1) → (isO h7 a0 7) ∧ wX10_sets a0 r2 h7 (fun r25 h24 => (isO h24 a0 7) ∧ wX10_done a0 r25 h24 (fun r27 h26 => K r27 h26)))))) ∧ (r5 = 1 → K 2 h4)))) ∧ (r2 = (-1) → K 1 h1)))
def wX10_frees_J60 (K : Int32 → AH → Prop) (c26 : Nat → Int32 → Int32 → Int32 → AH → Prop) (x0 : Nat) (x1 : Int32) (x2 : Int32) (x3 : Int32) (x4 : Int32) (h : AH) : Prop :=
  (isO h x0 7) ∧ wX10_train x0 x2 6 h (fun r14 h13 => (((r14 - 1) ≤ x3 → c26 x0 x1 x2 (x3 + 1) h13) ∧ (¬ (r14 - 1) ≤ x3 → (isO h13 x0 7) ∧ wX10_unlocks x0 x4 h13 (fun h16 => c26 x0 x1 x2 (x3 + 1) h16))))
def wX10_frees_L26 (K : Int32 → AH → Prop) (c85 : Nat → Int32 → Int32 → AH → Prop) (x0 : Nat) (x1 : Int32) (x2 : Int32) : Nat → Int32 → AH → Prop
  | 0 => fun _ _ => False
  | n + 1 => fun x3 h =>
  (isO h x0 7) ∧ wX10_train x0 x2 6 h (fun r8 h7 => ((r8 ≤ x3 → c85 x0 x1 x2 h7) ∧ (¬ r8 ≤ x3 → (isO h7 x0 7) ∧ wX10_train x0 x2 (7 + x3) h7 (fun r11 h10 => ((x3 ≤ 0 → (wX10_frees_J60 K (wX10_frees_L26 K c85 x0 x1 x2 n) x0 x1 x2 x3 r11 h10)) ∧ (¬ x3 ≤ 0 → (isO h10 x0 7) ∧ wX10_puts x0 r11 5 0 h10 (fun h20 => (wX10_frees_J60 K (wX10_frees_L26 K c85 x0 x1 x2 n) x0 x1 x2 x3 r11 h20))))))))
def wX10_frees_L88 (K : Int32 → AH → Prop)  (x0 : Nat) (x1 : Int32) (x2 : Int32) : Nat → Int32 → AH → Prop
  | 0 => fun _ _ => False
  | n + 1 => fun x3 h =>
  ((19 ≤ x3 → (isO h x0 7) ∧ wX10_tells x0 x2 3 0 h (fun h30 => (isO h30 x0 7) ∧ wX10_tells x0 x2 4 0 h30 (fun h32 => (isO h32 x0 7) ∧ wX10_enqueues x0 x1 h32 (fun h34 => (isO h34 x0 7) ∧ (isA h34 (mR h34 x0 1) 0) ∧ (vp_in 5 (ln h34 (mR h34 x0 1))) ∧ wX10_done x0 (mI h34 (mR h34 x0 1) 5.toNatClampNeg) h34 (fun r40 h39 => K r40 h39))))) ∧ (¬ 19 ≤ x3 → (isO h x0 7) ∧ wX10_tells x0 x2 x3 0 h (fun h44 => wX10_frees_L88 K  x0 x1 x2 n x0 x1 x2 (x3 + 1) h44)))
def wX10_frees (a0 : Nat) (a1 : Int32) (h : AH) (K : Int32 → AH → Prop) : Prop :=
  (isO h a0 7) ∧ wX10_placeOf a0 a1 h (fun r2 h1 => ((¬ r2 = (-1) → (isO h1 a0 7) ∧ wX10_train a0 r2 3 h1 (fun r5 h4 => ((¬ r5 = 0 → (∃ n48, wX10_frees_L26 K (fun x0_25 x1_26 x2_27 h28 => (∃ n47, wX10_frees_L88 K x0_25 x1_26 x2_27 n47 6 h28)) a0 a1 r2 n48 0 h4)) ∧ (r5 = 0 → K 2 h4)))) ∧ (r2 = (-1) → K 1 h1)))
def wX10_passes_L23 (K : Int32 → AH → Prop)  (x0 : Nat) (x1 : Int32) (x2 : Int32) : Nat → Int32 → AH → Prop
  | 0 => fun _ _ => False
  | n + 1 => fun x3 h =>
  ((x1 ≤ x3 → (isO h x0 7) ∧ (isA h (mR h x0 1) 0) ∧ (vp_in 7 (ln h (mR h x0 1))) ∧ wX10_done x0 (mI h (mR h x0 1) 7.toNatClampNeg - x2) h (fun r12 h11 => K r12 h11)) ∧ (¬ x1 ≤ x3 → (isO h x0 7) ∧ wX10_oneMinute x0 h (fun h13 => wX10_passes_L23 K  x0 x1 x2 n x0 x1 x2 (x3 + 1) h13)))
def wX10_passes (a0 : Nat) (a1 : Int32) (h : AH) (K : Int32 → AH → Prop) : Prop :=
  wX10_in a1 1 240 h (fun r2 h1 => ((¬ r2 = 0 → (isO h1 a0 7) ∧ (isA h1 (mR h1 a0 1) 0) ∧ (vp_in 7 (ln h1 (mR h1 a0 1))) ∧ (∃ n16, wX10_passes_L23 K a0 a1 (mI h1 (mR h1 a0 1) 7.toNatClampNeg) n16 0 h1)) ∧ (r2 = 0 → K 1 h1)))
def wX10_addBlock (a0 : Nat) (a1 : Int32) (h : AH) (K : Int32 → AH → Prop) : Prop :=
  (isO h a0 7) ∧ wX10_remembers a0 h (fun h1 => (isO h1 a0 7) ∧ wX10_lays a0 a1 h1 (fun r4 h3 => (isO h3 a0 7) ∧ wX10_ends a0 r4 h3 (fun r6 h5 => K r6 h5)))
def wX10_addPoint (a0 : Nat) (a1 : Int32) (a2 : Int32) (a3 : Int32) (h : AH) (K : Int32 → AH → Prop) : Prop :=
  (isO h a0 7) ∧ wX10_remembers a0 h (fun h1 => (isO h1 a0 7) ∧ wX10_forks a0 a1 a2 a3 h1 (fun r4 h3 => (isO h3 a0 7) ∧ wX10_ends a0 r4 h3 (fun r6 h5 => K r6 h5)))
def wX10_addLink (a0 : Nat) (a1 : Int32) (a2 : Int32) (h : AH) (K : Int32 → AH → Prop) : Prop :=
  (isO h a0 7) ∧ wX10_remembers a0 h (fun h1 => (isO h1 a0 7) ∧ wX10_links a0 a1 a2 h1 (fun r4 h3 => (isO h3 a0 7) ∧ wX10_ends a0 r4 h3 (fun r6 h5 => K r6 h5)))
def wX10_shut (a0 : Nat) (a1 : Int32) (h : AH) (K : Int32 → AH → Prop) : Prop :=
  (isO h a0 7) ∧ wX10_remembers a0 h (fun h1 => (isO h1 a0 7) ∧ wX10_shuts a0 a1 h1 (fun r4 h3 => (isO h3 a0 7) ∧ wX10_ends a0 r4 h3 (fun r6 h5 => K r6 h5)))
def wX10_open (a0 : Nat) (a1 : Int32) (h : AH) (K : Int32 → AH → Prop) : Prop :=
  (isO h a0 7) ∧ wX10_remembers a0 h (fun h1 => (isO h1 a0 7) ∧ wX10_opens a0 a1 h1 (fun r4 h3 => (isO h3 a0 7) ∧ wX10_ends a0 r4 h3 (fun r6 h5 => K r6 h5)))
def wX10_throwPoint (a0 : Nat) (a1 : Int32) (h : AH) (K : Int32 → AH → Prop) : Prop :=
  (isO h a0 7) ∧ wX10_remembers a0 h (fun h1 => (isO h1 a0 7) ∧ wX10_throwsOver a0 a1 h1 (fun r4 h3 => (isO h3 a0 7) ∧ wX10_ends a0 r4 h3 (fun r6 h5 => ((¬ r6 = 1 → K 0 h5) ∧ (r6 = 1 → K 1 h5)))))
def wX10_addTrain (a0 : Nat) (a1 : Int32) (a2 : Int32) (h : AH) (K : Int32 → AH → Prop) : Prop :=
  (isO h a0 7) ∧ wX10_remembers a0 h (fun h1 => (isO h1 a0 7) ∧ wX10_comes a0 a1 a2 h1 (fun r4 h3 => (isO h3 a0 7) ∧ wX10_ends a0 r4 h3 (fun r6 h5 => K r6 h5)))
def wX10_setRoute (a0 : Nat) (a1 : Int32) (h : AH) (K : Int32 → AH → Prop) : Prop :=
  (isO h a0 7) ∧ wX10_remembers a0 h (fun h1 => (isO h1 a0 7) ∧ wX10_clears a0 a1 h1 (fun r4 h3 => (isO h3 a0 7) ∧ wX10_ends a0 r4 h3 (fun r6 h5 => K r6 h5)))
def wX10_releaseRoute (a0 : Nat) (a1 : Int32) (h : AH) (K : Int32 → AH → Prop) : Prop :=
  (isO h a0 7) ∧ wX10_remembers a0 h (fun h1 => (isO h1 a0 7) ∧ wX10_frees a0 a1 h1 (fun r4 h3 => (isO h3 a0 7) ∧ wX10_ends a0 r4 h3 (fun r6 h5 => K r6 h5)))
def wX10_pass (a0 : Nat) (a1 : Int32) (h : AH) (K : Int32 → AH → Prop) : Prop :=
  (isO h a0 7) ∧ wX10_remembers a0 h (fun h1 => (isO h1 a0 7) ∧ wX10_passes a0 a1 h1 (fun r4 h3 => (isO h3 a0 7) ∧ wX10_ends a0 r4 h3 (fun r6 h5 => K r6 h5)))
def wX10_blocks (a0 : Nat) (h : AH) (K : Int32 → AH → Prop) : Prop :=
  (isO h a0 7) ∧ ∀ h2, h2 = uI h a0 0 0 → (isA h (mR h a0 1) 0) ∧ (vp_in 0 (ln h (mR h a0 1))) ∧ K (mI h2 (mR h a0 1) 0.toNatClampNeg) h2
def wX10_isAsked_J14 (K : Int32 → AH → Prop)  (x0 : Nat) (y0 : Nat) (y1 : Int32) (h : AH) : Prop :=
  (isO h y0 7) ∧ ∀ h5, h5 = uI h y0 0 y1 → (isO h x0 7) ∧ ((¬ mI h5 x0 0 = 0 → K 0 h5) ∧ (mI h5 x0 0 = 0 → K 1 h5))
def wX10_isAsked (a0 : Nat) (a1 : Int32) (h : AH) (K : Int32 → AH → Prop) : Prop :=
  (isO h a0 7) ∧ wX10_isBlock a0 a1 h (fun r2 h1 => ((r2 = 0 → (wX10_isAsked_J14 K a0 a0 1 h1)) ∧ (¬ r2 = 0 → (wX10_isAsked_J14 K a0 a0 0 h1))))
def wX10_blockLength (a0 : Nat) (a1 : Int32) (h : AH) (K : Int32 → AH → Prop) : Prop :=
  (isO h a0 7) ∧ wX10_isAsked a0 a1 h (fun r2 h1 => ((r2 = 0 → K 0 h1) ∧ (¬ r2 = 0 → (isO h1 a0 7) ∧ wX10_block a0 a1 0 h1 (fun r5 h4 => K r5 h4))))
def wX10_blockState (a0 : Nat) (a1 : Int32) (h : AH) (K : Int32 → AH → Prop) : Prop :=
  (isO h a0 7) ∧ wX10_isAsked a0 a1 h (fun r2 h1 => ((r2 = 0 → K 0 h1) ∧ (¬ r2 = 0 → (isO h1 a0 7) ∧ wX10_look a0 a1 h1 (fun r5 h4 => (narrow .char (.int ((r5.toUInt32 % 65536).toInt32)) = .int ((r5.toUInt32 % 65536).toInt32)) ∧ K ((r5.toUInt32 % 65536).toInt32) h4))))
def wX10_trainAt_J34 (K : Int32 → AH → Prop)  (x0 : Nat) (y0 : Int32) (h : AH) : Prop :=
  ((¬ y0 = 0 → K (y0 - 1) h) ∧ (y0 = 0 → (isO h x0 7) ∧ wX10_fails x0 2 h (fun r11 h10 => K r11 h10)))
def wX10_trainAt (a0 : Nat) (a1 : Int32) (h : AH) (K : Int32 → AH → Prop) : Prop :=
  (isO h a0 7) ∧ wX10_isAsked a0 a1 h (fun r2 h1 => ((¬ r2 = 0 → (isO h1 a0 7) ∧ wX10_block a0 a1 4 h1 (fun r5 h4 => ((r5 ≤ 0 → (isO h4 a0 7) ∧ wX10_block a0 a1 5 h4 (fun r8 h7 => (wX10_trainAt_J34 K a0 r8 h7))) ∧ (¬ r5 ≤ 0 → (isO h4 a0 7) ∧ wX10_block a0 a1 4 h4 (fun r15 h14 => (wX10_trainAt_J34 K a0 r15 h14)))))) ∧ (r2 = 0 → K 0 h1)))
def wX10_liesLeft_J14 (K : Int32 → AH → Prop)  (x0 : Nat) (x1 : Int32) (y0 : Nat) (y1 : Int32) (h : AH) : Prop :=
  (isO h y0 7) ∧ ∀ h5, h5 = uI h y0 0 y1 → (isO h x0 7) ∧ ((¬ mI h5 x0 0 = 0 → K 0 h5) ∧ (mI h5 x0 0 = 0 → wX10_point x0 x1 3 h5 (fun r9 h8 => ((¬ r9 = 0 → K 0 h8) ∧ (r9 = 0 → K 1 h8)))))
def wX10_liesLeft (a0 : Nat) (a1 : Int32) (h : AH) (K : Int32 → AH → Prop) : Prop :=
  (isO h a0 7) ∧ wX10_isPoint a0 a1 h (fun r2 h1 => ((r2 = 0 → (wX10_liesLeft_J14 K a0 a1 a0 1 h1)) ∧ (¬ r2 = 0 → (wX10_liesLeft_J14 K a0 a1 a0 0 h1))))
def wX10_lockedBy_J27 (K : Int32 → AH → Prop)  (x0 : Nat) (x1 : Int32) (y0 : Nat) (y1 : Int32) (h : AH) : Prop :=
  (isO h y0 7) ∧ ∀ h8, h8 = uI h y0 0 y1 → (isO h x0 7) ∧ ((mI h8 x0 0 ≤ 0 → wX10_point x0 x1 4 h8 (fun r12 h11 => K (r12 - 1) h11)) ∧ (¬ mI h8 x0 0 ≤ 0 → K 0 h8))
def wX10_lockedBy (a0 : Nat) (a1 : Int32) (h : AH) (K : Int32 → AH → Prop) : Prop :=
  (isO h a0 7) ∧ wX10_isPoint a0 a1 h (fun r2 h1 => ((¬ r2 = 0 → (isO h1 a0 7) ∧ wX10_point a0 a1 4 h1 (fun r5 h4 => ((¬ r5 = 0 → (wX10_lockedBy_J27 K a0 a1 a0 0 h4)) ∧ (r5 = 0 → (wX10_lockedBy_J27 K a0 a1 a0 2 h4))))) ∧ (r2 = 0 → (wX10_lockedBy_J27 K a0 a1 a0 1 h1))))
def wX10_arePlaces_J22 (K : Int32 → AH → Prop)  (x0 : Nat) (y0 : Nat) (y1 : Int32) (h : AH) : Prop :=
  (isO h y0 7) ∧ ∀ h5, h5 = uI h y0 0 y1 → (isO h x0 7) ∧ ((¬ mI h5 x0 0 = 0 → K 0 h5) ∧ (mI h5 x0 0 = 0 → K 1 h5))
def wX10_arePlaces_J21 (K : Int32 → AH → Prop)  (x0 : Nat) (y0 : Nat) (h : AH) : Prop :=
  (wX10_arePlaces_J22 K x0 y0 1 h)
def wX10_arePlaces (a0 : Nat) (a1 : Int32) (a2 : Int32) (h : AH) (K : Int32 → AH → Prop) : Prop :=
  (isO h a0 7) ∧ wX10_isBlock a0 a1 h (fun r2 h1 => ((r2 = 0 → (wX10_arePlaces_J21 K a0 a0 h1)) ∧ (¬ r2 = 0 → (isO h1 a0 7) ∧ wX10_isBlock a0 a2 h1 (fun r9 h8 => ((r9 = 0 → (wX10_arePlaces_J21 K a0 a0 h8)) ∧ (¬ r9 = 0 → (wX10_arePlaces_J22 K a0 a0 0 h8)))))))
def wX10_routeLength (a0 : Nat) (a1 : Int32) (a2 : Int32) (h : AH) (K : Int32 → AH → Prop) : Prop :=
  (isO h a0 7) ∧ wX10_arePlaces a0 a1 a2 h (fun r2 h1 => ((¬ r2 = 0 → (isO h1 a0 7) ∧ wX10_leads a0 a1 a2 h1 (fun r5 h4 => ((¬ r5 = (-1) → K r5 h4) ∧ (r5 = (-1) → (isO h4 a0 7) ∧ wX10_fails a0 2 h4 (fun r8 h7 => K r8 h7))))) ∧ (r2 = 0 → K 0 h1)))
def wX10_routeLengthByPaths (a0 : Nat) (a1 : Int32) (a2 : Int32) (h : AH) (K : Int32 → AH → Prop) : Prop :=
  (isO h a0 7) ∧ wX10_routeLength a0 a1 a2 h (fun r2 h1 => K r2 h1)
def wX10_routeBlock_J39 (K : Int32 → AH → Prop)  (x0 : Nat) (h : AH) : Prop :=
  (isO h x0 7) ∧ wX10_fails x0 2 h (fun r8 h7 => K r8 h7)
def wX10_routeBlock (a0 : Nat) (a1 : Int32) (a2 : Int32) (a3 : Int32) (h : AH) (K : Int32 → AH → Prop) : Prop :=
  (isO h a0 7) ∧ wX10_arePlaces a0 a1 a2 h (fun r2 h1 => ((¬ r2 = 0 → (isO h1 a0 7) ∧ wX10_leads a0 a1 a2 h1 (fun r5 h4 => ((r5 = (-1) → (wX10_routeBlock_J39 K a0 h4)) ∧ (¬ r5 = (-1) → (isO h4 a0 7) ∧ wX10_in a3 0 (mI h4 a0 20 - 1) h4 (fun r12 h11 => ((¬ r12 = 0 → (isO h11 a0 7) ∧ (isA h11 (mR h11 a0 12) 0) ∧ (vp_in a3 (ln h11 (mR h11 a0 12))) ∧ K (mI h11 (mR h11 a0 12) a3.toNatClampNeg) h11) ∧ (r12 = 0 → (wX10_routeBlock_J39 K a0 h11)))))))) ∧ (r2 = 0 → K 0 h1)))
def wX10_paths (a0 : Nat) (a1 : Int32) (a2 : Int32) (h : AH) (K : Int32 → AH → Prop) : Prop :=
  (isO h a0 7) ∧ wX10_arePlaces a0 a1 a2 h (fun r2 h1 => ((r2 = 0 → K 0 h1) ∧ (¬ r2 = 0 → (isO h1 a0 7) ∧ wX10_count 14 a0 a1 a2 (1 <<< (a1 &&& 31)) h1 (fun r5 h4 => K r5 h4))))
def wX10_trains (a0 : Nat) (h : AH) (K : Int32 → AH → Prop) : Prop :=
  (isO h a0 7) ∧ ∀ h2, h2 = uI h a0 0 0 → (isA h (mR h a0 1) 0) ∧ (vp_in 4 (ln h (mR h a0 1))) ∧ K (mI h2 (mR h a0 1) 4.toNatClampNeg) h2
def wX10_isPresent (a0 : Nat) (a1 : Int32) (h : AH) (K : Int32 → AH → Prop) : Prop :=
  (isO h a0 7) ∧ ∀ h2, h2 = uI h a0 0 0 → wX10_placeOf a0 a1 h2 (fun r4 h3 => ((r4 = (-1) → K 0 h3) ∧ (¬ r4 = (-1) → K 1 h3)))
def wX10_asked_J17 (K : Int32 → AH → Prop)  (x0 : Nat) (x2 : Int32) (x3 : Int32) (y0 : Nat) (y1 : Int32) (h : AH) : Prop :=
  (isO h y0 7) ∧ ∀ h5, h5 = uI h y0 0 y1 → (isO h x0 7) ∧ ((mI h5 x0 0 ≤ 0 → wX10_train x0 x3 x2 h5 (fun r9 h8 => K r9 h8)) ∧ (¬ mI h5 x0 0 ≤ 0 → K 0 h5))
def wX10_asked (a0 : Nat) (a1 : Int32) (a2 : Int32) (h : AH) (K : Int32 → AH → Prop) : Prop :=
  (isO h a0 7) ∧ wX10_placeOf a0 a1 h (fun r2 h1 => ((¬ r2 = (-1) → (wX10_asked_J17 K a0 a2 r2 a0 0 h1)) ∧ (r2 = (-1) → (wX10_asked_J17 K a0 a2 r2 a0 1 h1))))
def wX10_blockOf (a0 : Nat) (a1 : Int32) (h : AH) (K : Int32 → AH → Prop) : Prop :=
  (isO h a0 7) ∧ wX10_asked a0 a1 1 h (fun r2 h1 => K r2 h1)
def wX10_destination (a0 : Nat) (a1 : Int32) (h : AH) (K : Int32 → AH → Prop) : Prop :=
  (isO h a0 7) ∧ wX10_asked a0 a1 2 h (fun r2 h1 => K r2 h1)
def wX10_hasRoute (a0 : Nat) (a1 : Int32) (h : AH) (K : Int32 → AH → Prop) : Prop :=
  (isO h a0 7) ∧ wX10_asked a0 a1 3 h (fun r2 h1 => ((¬ r2 = 1 → K 0 h1) ∧ (r2 = 1 → K 1 h1)))
def wX10_isClear_J17 (K : Int32 → AH → Prop)  (x0 : Nat) (x2 : Int32) (y0 : Nat) (y1 : Int32) (h : AH) : Prop :=
  (isO h y0 7) ∧ ∀ h5, h5 = uI h y0 0 y1 → (isO h x0 7) ∧ ((¬ mI h5 x0 0 = 0 → K 0 h5) ∧ (mI h5 x0 0 = 0 → wX10_isFree x0 x2 h5 (fun r9 h8 => ((r9 = 0 → K 0 h8) ∧ (¬ r9 = 0 → K 1 h8)))))
def wX10_isClear (a0 : Nat) (a1 : Int32) (h : AH) (K : Int32 → AH → Prop) : Prop :=
  (isO h a0 7) ∧ wX10_placeOf a0 a1 h (fun r2 h1 => ((¬ r2 = (-1) → (wX10_isClear_J17 K a0 r2 a0 0 h1)) ∧ (r2 = (-1) → (wX10_isClear_J17 K a0 r2 a0 1 h1))))
def wX10_isRunning_J26 (K : Int32 → AH → Prop)  (x0 : Nat) (y0 : Nat) (y1 : Int32) (h : AH) : Prop :=
  (isO h y0 7) ∧ ∀ h5, h5 = uI h y0 0 y1 → (isO h x0 7) ∧ ((¬ mI h5 x0 0 = 0 → K 0 h5) ∧ (mI h5 x0 0 = 0 → K 1 h5))
def wX10_isRunning_J21 (K : Int32 → AH → Prop)  (x0 : Nat) (y0 : Nat) (h : AH) : Prop :=
  (wX10_isRunning_J26 K x0 y0 1 h)
def wX10_isRunning (a0 : Nat) (a1 : Int32) (h : AH) (K : Int32 → AH → Prop) : Prop :=
  (isO h a0 7) ∧ wX10_placeOf a0 a1 h (fun r2 h1 => ((r2 = (-1) → (wX10_isRunning_J21 K a0 a0 h1)) ∧ (¬ r2 = (-1) → (isO h1 a0 7) ∧ wX10_train a0 r2 3 h1 (fun r9 h8 => ((¬ r9 = 0 → (wX10_isRunning_J26 K a0 a0 0 h8)) ∧ (r9 = 0 → (wX10_isRunning_J21 K a0 a0 h8)))))))
def wX10_minutesUntilNext (a0 : Nat) (a1 : Int32) (h : AH) (K : Int32 → AH → Prop) : Prop :=
  (isO h a0 7) ∧ wX10_isRunning a0 a1 h (fun r2 h1 => ((r2 = 0 → K 0 h1) ∧ (¬ r2 = 0 → (isO h1 a0 7) ∧ wX10_placeOf a0 a1 h1 (fun r5 h4 => (isO h4 a0 7) ∧ wX10_train a0 r5 4 h4 (fun r7 h6 => (isO h6 a0 7) ∧ (isA h6 (mR h6 a0 1) 0) ∧ (vp_in 6 (ln h6 (mR h6 a0 1))) ∧ K (r7 - mI h6 (mR h6 a0 1) 6.toNatClampNeg) h6)))))
def wX10_minutesUntilArrival_L34 (K : Int32 → AH → Prop)  (x0 : Nat) (x2 : Int32) : Nat → Int32 → Int32 → AH → Prop
  | 0 => fun _ _ _ => False
  | n + 1 => fun x3 x4 h =>
  (isO h x0 7) ∧ wX10_train x0 x2 6 h (fun r14 h13 => ((r14 ≤ x4 → K x3 h13) ∧ (¬ r14 ≤ x4 → (isO h13 x0 7) ∧ wX10_train x0 x2 (7 + x4) h13 (fun r17 h16 => (isO h16 x0 7) ∧ wX10_block x0 r17 0 h16 (fun r19 h18 => wX10_minutesUntilArrival_L34 K  x0 x2 n x0 x2 (x3 + r19) (x4 + 1) h18)))))
def wX10_minutesUntilArrival (a0 : Nat) (a1 : Int32) (h : AH) (K : Int32 → AH → Prop) : Prop :=
  (isO h a0 7) ∧ wX10_isRunning a0 a1 h (fun r2 h1 => ((¬ r2 = 0 → (isO h1 a0 7) ∧ wX10_placeOf a0 a1 h1 (fun r5 h4 => (isO h4 a0 7) ∧ wX10_train a0 r5 4 h4 (fun r7 h6 => (isO h6 a0 7) ∧ (isA h6 (mR h6 a0 1) 0) ∧ (vp_in 6 (ln h6 (mR h6 a0 1))) ∧ ∀ v11 : Int32, v11 = (r7 - mI h6 (mR h6 a0 1) 6.toNatClampNeg) → (∃ n23, wX10_minutesUntilArrival_L34 K a0 r5 n23 v11 2 h6)))) ∧ (r2 = 0 → K 0 h1)))
def wX10_minutesUntilArrivalByPassing (a0 : Nat) (a1 : Int32) (h : AH) (K : Int32 → AH → Prop) : Prop :=
  (isO h a0 7) ∧ wX10_minutesUntilArrival a0 a1 h (fun r2 h1 => K r2 h1)
def wX10_delay (a0 : Nat) (a1 : Int32) (h : AH) (K : Int32 → AH → Prop) : Prop :=
  (isO h a0 7) ∧ wX10_asked a0 a1 5 h (fun r2 h1 => K r2 h1)
def wX10_queued_J22 (K : Int32 → AH → Prop)  (x0 : Nat) (x1 : Int32) (y0 : Nat) (y1 : Int32) (h : AH) : Prop :=
  (isO h y0 7) ∧ ∀ h8, h8 = uI h y0 0 y1 → (isO h x0 7) ∧ ((mI h8 x0 0 ≤ 0 → (isA h (mR h x0 1) 0) ∧ (vp_in (273 + x1) (ln h (mR h x0 1))) ∧ K (mI h8 (mR h x0 1) (273 + x1).toNatClampNeg) h8) ∧ (¬ mI h8 x0 0 ≤ 0 → K 0 h8))
def wX10_queued (a0 : Nat) (a1 : Int32) (h : AH) (K : Int32 → AH → Prop) : Prop :=
  (isO h a0 7) ∧ (isA h (mR h a0 1) 0) ∧ (vp_in 5 (ln h (mR h a0 1))) ∧ wX10_in a1 0 (mI h (mR h a0 1) 5.toNatClampNeg - 1) h (fun r5 h4 => ((r5 = 0 → (wX10_queued_J22 K a0 a1 a0 1 h4)) ∧ (¬ r5 = 0 → (wX10_queued_J22 K a0 a1 a0 0 h4))))
def wX10_isWaiting_L49 (K : Int32 → AH → Prop)  (x0 : Nat) (x3 : Int32) : Nat → Int32 → AH → Prop
  | 0 => fun _ _ => False
  | n + 1 => fun x4 h =>
  (isO h x0 7) ∧ ((mI h x0 20 ≤ x4 → K 0 h) ∧ (¬ mI h x0 20 ≤ x4 → (isA h (mR h x0 12) 0) ∧ (vp_in x4 (ln h (mR h x0 12))) ∧ wX10_block x0 (mI h (mR h x0 12) x4.toNatClampNeg) 4 h (fun r19 h18 => ((r19 = x3 → K 1 h18) ∧ (¬ r19 = x3 → (isO h18 x0 7) ∧ (isA h18 (mR h18 x0 12) 0) ∧ (vp_in x4 (ln h18 (mR h18 x0 12))) ∧ wX10_block x0 (mI h18 (mR h18 x0 12) x4.toNatClampNeg) 5 h18 (fun r25 h24 => ((¬ r25 = x3 → wX10_isWaiting_L49 K  x0 x3 n x0 x3 (x4 + 1) h24) ∧ (r25 = x3 → K 1 h24))))))))
def wX10_isWaiting (a0 : Nat) (a1 : Int32) (a2 : Int32) (h : AH) (K : Int32 → AH → Prop) : Prop :=
  ((a1 = a2 → K 0 h) ∧ (¬ a1 = a2 → (isO h a0 7) ∧ wX10_train a0 a1 3 h (fun r3 h2 => ((r3 = 1 → K 0 h2) ∧ (¬ r3 = 1 → (isO h2 a0 7) ∧ wX10_train a0 a1 1 h2 (fun r6 h5 => (isO h5 a0 7) ∧ wX10_train a0 a1 2 h5 (fun r8 h7 => (isO h7 a0 7) ∧ wX10_leads a0 r6 r8 h7 (fun r10 h9 => ((¬ r10 = (-1) → (isO h9 a0 7) ∧ wX10_train a0 a2 0 h9 (fun r13 h12 => (∃ n27, wX10_isWaiting_L49 K a0 (r13 + 1) n27 1 h12))) ∧ (r10 = (-1) → K 0 h9))))))))))
def wX10_waitsFor_J30 (K : Int32 → AH → Prop)  (x0 : Nat) (x3 : Int32) (x4 : Int32) (y0 : Nat) (y1 : Int32) (h : AH) : Prop :=
  (isO h y0 7) ∧ ∀ h7, h7 = uI h y0 0 y1 → (isO h x0 7) ∧ ((¬ mI h7 x0 0 = 0 → K 0 h7) ∧ (mI h7 x0 0 = 0 → wX10_isWaiting x0 x3 x4 h7 (fun r11 h10 => ((r11 = 0 → K 0 h10) ∧ (¬ r11 = 0 → K 1 h10)))))
def wX10_waitsFor_J25 (K : Int32 → AH → Prop)  (x0 : Nat) (x3 : Int32) (x4 : Int32) (y0 : Nat) (h : AH) : Prop :=
  (wX10_waitsFor_J30 K x0 x3 x4 y0 1 h)
def wX10_waitsFor (a0 : Nat) (a1 : Int32) (a2 : Int32) (h : AH) (K : Int32 → AH → Prop) : Prop :=
  (isO h a0 7) ∧ wX10_placeOf a0 a1 h (fun r2 h1 => (isO h1 a0 7) ∧ wX10_placeOf a0 a2 h1 (fun r4 h3 => ((r2 = (-1) → (wX10_waitsFor_J25 K a0 r2 r4 a0 h3)) ∧ (¬ r2 = (-1) → ((¬ r4 = (-1) → (wX10_waitsFor_J30 K a0 r2 r4 a0 0 h3)) ∧ (r4 = (-1) → (wX10_waitsFor_J25 K a0 r2 r4 a0 h3)))))))
def wX10_deadlocked_J56 (K : Int32 → AH → Prop) (c28 : Nat → Int32 → Int32 → Int32 → AH → Prop) (x0 : Nat) (x1 : Int32) (x2 : Int32) (x3 : Int32) (y0 : Nat) (y1 : Int32) (y2 : Int32) (y3 : Int32) (h : AH) : Prop :=
  (isA h y0 0) ∧ (nZ ≤ y0) ∧ (vp_in y1 (ln h y0)) ∧ ∀ h21, h21 = uI h y0 y1.toNatClampNeg (y2 ||| y3) → c28 x0 x1 x2 (x3 + 1) h21
def wX10_deadlocked_L28 (K : Int32 → AH → Prop) (c64 : Nat → Int32 → Int32 → AH → Prop) (x0 : Nat) (x1 : Int32) (x2 : Int32) : Nat → Int32 → AH → Prop
  | 0 => fun _ _ => False
  | n + 1 => fun x3 h =>
  ((x1 ≤ x3 → c64 x0 x1 x2 h) ∧ (¬ x1 ≤ x3 → (isO h x0 7) ∧ (isA h (mR h x0 13) 0) ∧ (vp_in x2 (ln h (mR h x0 13))) ∧ wX10_isWaiting x0 x2 x3 h (fun r16 h15 => ((r16 = 0 → (wX10_deadlocked_J56 K (wX10_deadlocked_L28 K c64 x0 x1 x2 n) x0 x1 x2 x3 (mR h x0 13) x2 (mI h (mR h x0 13) x2.toNatClampNeg) 0 h15)) ∧ (¬ r16 = 0 → (wX10_deadlocked_J56 K (wX10_deadlocked_L28 K c64 x0 x1 x2 n) x0 x1 x2 x3 (mR h x0 13) x2 (mI h (mR h x0 13) x2.toNatClampNeg) (1 <<< (x3 &&& 31)) h15))))))
def wX10_deadlocked_L14 (K : Int32 → AH → Prop) (c70 : Nat → Int32 → AH → Prop) (x0 : Nat) (x1 : Int32) : Nat → Int32 → AH → Prop
  | 0 => fun _ _ => False
  | n + 1 => fun x2 h =>
  ((x1 ≤ x2 → c70 x0 x1 h) ∧ (¬ x1 ≤ x2 → (isO h x0 7) ∧ (isA h (mR h x0 13) 0) ∧ (nZ ≤ (mR h x0 13)) ∧ (vp_in x2 (ln h (mR h x0 13))) ∧ ∀ h10, h10 = uI h (mR h x0 13) x2.toNatClampNeg 0 → (∃ n26, wX10_deadlocked_L28 K (fun x0_22 x1_23 x2_24 h25 => wX10_deadlocked_L14 K c70 x0 x1 n x0_22 x1_23 (x2_24 + 1) h25) x0 x1 x2 n26 0 h10)))
def wX10_deadlocked_J115 (K : Int32 → AH → Prop) (c79 : Nat → Int32 → Int32 → Int32 → AH → Prop) (x0 : Nat) (x1 : Int32) (x2 : Int32) (x3 : Int32) (y0 : Nat) (y1 : Int32) (y2 : Int32) (y3 : Int32) (h : AH) : Prop :=
  (isA h y0 0) ∧ (nZ ≤ y0) ∧ (vp_in y1 (ln h y0)) ∧ ∀ h39, h39 = uI h y0 y1.toNatClampNeg (y2 ||| y3) → c79 x0 x1 x2 (x3 + 1) h39
def wX10_deadlocked_L79 (K : Int32 → AH → Prop) (c123 : Nat → Int32 → Int32 → AH → Prop) (x0 : Nat) (x1 : Int32) (x2 : Int32) : Nat → Int32 → AH → Prop
  | 0 => fun _ _ => False
  | n + 1 => fun x3 h =>
  ((x1 ≤ x3 → c123 x0 x1 x2 h) ∧ (¬ x1 ≤ x3 → (isO h x0 7) ∧ (isA h (mR h x0 13) 0) ∧ (vp_in x3 (ln h (mR h x0 13))) ∧ ((¬ ((mI h (mR h x0 13) x3.toNatClampNeg >>> (x2 &&& 31)) &&& 1) = 1 → (wX10_deadlocked_J115 K (wX10_deadlocked_L79 K c123 x0 x1 x2 n) x0 x1 x2 x3 (mR h x0 13) x3 (mI h (mR h x0 13) x3.toNatClampNeg) 0 h)) ∧ (((mI h (mR h x0 13) x3.toNatClampNeg >>> (x2 &&& 31)) &&& 1) = 1 → (vp_in x2 (ln h (mR h x0 13))) ∧ (wX10_deadlocked_J115 K (wX10_deadlocked_L79 K c123 x0 x1 x2 n) x0 x1 x2 x3 (mR h x0 13) x3 (mI h (mR h x0 13) x3.toNatClampNeg) (mI h (mR h x0 13) x2.toNatClampNeg) h)))))
def wX10_deadlocked_L72 (K : Int32 → AH → Prop) (c129 : Nat → Int32 → AH → Prop) (x0 : Nat) (x1 : Int32) : Nat → Int32 → AH → Prop
  | 0 => fun _ _ => False
  | n + 1 => fun x2 h =>
  ((x1 ≤ x2 → c129 x0 x1 h) ∧ (¬ x1 ≤ x2 → (∃ n45, wX10_deadlocked_L79 K (fun x0_41 x1_42 x2_43 h44 => wX10_deadlocked_L72 K c129 x0 x1 n x0_41 x1_42 (x2_43 + 1) h44) x0 x1 x2 n45 0 h)))
def wX10_deadlocked_L133 (K : Int32 → AH → Prop)  (x0 : Nat) (x1 : Int32) : Nat → Int32 → Int32 → AH → Prop
  | 0 => fun _ _ _ => False
  | n + 1 => fun x2 x3 h =>
  ((x1 ≤ x3 → K x2 h) ∧ (¬ x1 ≤ x3 → (isO h x0 7) ∧ (isA h (mR h x0 13) 0) ∧ (vp_in x3 (ln h (mR h x0 13))) ∧ ∀ v53 : Int32, v53 = (x2 + ((mI h (mR h x0 13) x3.toNatClampNeg >>> (x3 &&& 31)) &&& 1)) → wX10_deadlocked_L133 K  x0 x1 n x0 x1 v53 (x3 + 1) h))
def wX10_deadlocked (a0 : Nat) (h : AH) (K : Int32 → AH → Prop) : Prop :=
  (isO h a0 7) ∧ ∀ h2, h2 = uI h a0 0 0 → (isA h (mR h a0 1) 0) ∧ (vp_in 4 (ln h (mR h a0 1))) ∧ (∃ n57, wX10_deadlocked_L14 K (fun x0_27 x1_28 h29 => (∃ n56, wX10_deadlocked_L72 K (fun x0_46 x1_47 h48 => (∃ n55, wX10_deadlocked_L133 K x0_46 x1_47 n55 0 0 h48)) x0_27 x1_28 n56 0 h29)) a0 (mI h2 (mR h a0 1) 4.toNatClampNeg) n57 0 h2)
def wX10_deadlockedByPairs (a0 : Nat) (h : AH) (K : Int32 → AH → Prop) : Prop :=
  (isO h a0 7) ∧ wX10_deadlocked a0 h (fun r2 h1 => K r2 h1)
def wX10_wayOf_L22 (K : Int32 → AH → Prop)  (x0 : Nat) : Nat → Int32 → Int32 → AH → Prop
  | 0 => fun _ _ _ => False
  | n + 1 => fun x2 x4 h =>
  (isO h x0 7) ∧ ((mI h x0 20 ≤ x4 → K x2 h) ∧ (¬ mI h x0 20 ≤ x4 → (isA h (mR h x0 12) 0) ∧ (vp_in x4 (ln h (mR h x0 12))) ∧ ∀ v11 : Int32, v11 = (x2 ||| (1 <<< (mI h (mR h x0 12) x4.toNatClampNeg &&& 31))) → wX10_wayOf_L22 K  x0 n x0 v11 (x4 + 1) h))
def wX10_wayOf (a0 : Nat) (a1 : Int32) (h : AH) (K : Int32 → AH → Prop) : Prop :=
  (isO h a0 7) ∧ wX10_train a0 a1 1 h (fun r2 h1 => (isO h1 a0 7) ∧ wX10_train a0 a1 2 h1 (fun r4 h3 => (isO h3 a0 7) ∧ wX10_leads a0 r2 r4 h3 (fun r6 h5 => (∃ n13, wX10_wayOf_L22 K a0 n13 0 1 h5))))
def wX10_conflict_J40 (K : Int32 → AH → Prop)  (x0 : Nat) (x3 : Int32) (x4 : Int32) (y0 : Nat) (y1 : Int32) (h : AH) : Prop :=
  (isO h y0 7) ∧ ∀ h7, h7 = uI h y0 0 y1 → (isO h x0 7) ∧ ((¬ mI h7 x0 0 = 0 → K 0 h7) ∧ (mI h7 x0 0 = 0 → wX10_wayOf x0 x3 h7 (fun r11 h10 => (isO h10 x0 7) ∧ wX10_wayOf x0 x4 h10 (fun r13 h12 => (((r11 &&& r13) = 0 → K 0 h12) ∧ (¬ (r11 &&& r13) = 0 → K 1 h12))))))
def wX10_conflict_J25 (K : Int32 → AH → Prop)  (x0 : Nat) (x3 : Int32) (x4 : Int32) (y0 : Nat) (h : AH) : Prop :=
  (wX10_conflict_J40 K x0 x3 x4 y0 1 h)
def wX10_conflict (a0 : Nat) (a1 : Int32) (a2 : Int32) (h : AH) (K : Int32 → AH → Prop) : Prop :=
  (isO h a0 7) ∧ wX10_placeOf a0 a1 h (fun r2 h1 => (isO h1 a0 7) ∧ wX10_placeOf a0 a2 h1 (fun r4 h3 => ((r2 = (-1) → (wX10_conflict_J25 K a0 r2 r4 a0 h3)) ∧ (¬ r2 = (-1) → ((¬ r4 = (-1) → ((¬ r2 = r4 → (wX10_conflict_J40 K a0 r2 r4 a0 0 h3)) ∧ (r2 = r4 → (wX10_conflict_J40 K a0 r2 r4 a0 2 h3)))) ∧ (r4 = (-1) → (wX10_conflict_J25 K a0 r2 r4 a0 h3)))))))
def wX10_mostWithoutConflict_L14 (K : Int32 → AH → Prop) (c36 : Nat → Int32 → AH → Prop) (x0 : Nat) (x1 : Int32) : Nat → Int32 → AH → Prop
  | 0 => fun _ _ => False
  | n + 1 => fun x2 h =>
  ((x1 ≤ x2 → c36 x0 x1 h) ∧ (¬ x1 ≤ x2 → (isO h x0 7) ∧ wX10_wayOf x0 x2 h (fun r8 h7 => (isA h7 (mR h x0 14) 0) ∧ (nZ ≤ (mR h x0 14)) ∧ (vp_in x2 (ln h7 (mR h x0 14))) ∧ ∀ h12, h12 = uI h7 (mR h x0 14) x2.toNatClampNeg r8 → wX10_mostWithoutConflict_L14 K c36 x0 x1 n x0 x1 (x2 + 1) h12)))
def wX10_mostWithoutConflict_J100 (K : Int32 → AH → Prop) (c59 : Nat → Int32 → Int32 → Int32 → Int32 → Int32 → Int32 → Int32 → AH → Prop) (x0 : Nat) (x1 : Int32) (x2 : Int32) (x3 : Int32) (x4 : Int32) (x5 : Int32) (x7 : Int32) (y0 : Int32) (h : AH) : Prop :=
  (isO h x0 7) ∧ (isA h (mR h x0 14) 0) ∧ (vp_in x7 (ln h (mR h x0 14))) ∧ ∀ v27 : Int32, v27 = (x4 ||| mI h (mR h x0 14) x7.toNatClampNeg) → c59 x0 x1 x2 x3 v27 (x5 + 1) y0 (x7 + 1) h
def wX10_mostWithoutConflict_L59 (K : Int32 → AH → Prop) (c123 : Nat → Int32 → Int32 → Int32 → Int32 → Int32 → AH → Prop) (x0 : Nat) (x1 : Int32) (x2 : Int32) (x3 : Int32) : Nat → Int32 → Int32 → Int32 → Int32 → AH → Prop
  | 0 => fun _ _ _ _ _ => False
  | n + 1 => fun x4 x5 x6 x7 h =>
  ((x1 ≤ x7 → c123 x0 x1 x2 x3 x5 x6 h) ∧ (¬ x1 ≤ x7 → ((x6 = 0 → c123 x0 x1 x2 x3 x5 x6 h) ∧ (¬ x6 = 0 → ((¬ ((x3 >>> (x7 &&& 31)) &&& 1) = 0 → (isO h x0 7) ∧ (isA h (mR h x0 14) 0) ∧ (vp_in x7 (ln h (mR h x0 14))) ∧ ((¬ (x4 &&& mI h (mR h x0 14) x7.toNatClampNeg) = 0 → (wX10_mostWithoutConflict_J100 K (wX10_mostWithoutConflict_L59 K c123 x0 x1 x2 x3 n) x0 x1 x2 x3 x4 x5 x7 0 h)) ∧ ((x4 &&& mI h (mR h x0 14) x7.toNatClampNeg) = 0 → (wX10_mostWithoutConflict_J100 K (wX10_mostWithoutConflict_L59 K c123 x0 x1 x2 x3 n) x0 x1 x2 x3 x4 x5 x7 1 h)))) ∧ (((x3 >>> (x7 &&& 31)) &&& 1) = 0 → wX10_mostWithoutConflict_L59 K c123 x0 x1 x2 x3 n x0 x1 x2 x3 x4 x5 x6 (x7 + 1) h))))))
def wX10_mostWithoutConflict_L40 (K : Int32 → AH → Prop)  (x0 : Nat) (x1 : Int32) : Nat → Int32 → Int32 → AH → Prop
  | 0 => fun _ _ _ => False
  | n + 1 => fun x2 x3 h =>
  (((1 <<< (x1 &&& 31)) ≤ x3 → K x2 h) ∧ (¬ (1 <<< (x1 &&& 31)) ≤ x3 → (∃ n38, wX10_mostWithoutConflict_L59 K (fun x0_29 x1_30 x2_31 x3_32 x5_33 x6_34 h35 => ((x6_34 = 0 → wX10_mostWithoutConflict_L40 K  x0 x1 n x0_29 x1_30 x2_31 (x3_32 + 1) h35) ∧ (¬ x6_34 = 0 → ((x5_33 ≤ x2_31 → wX10_mostWithoutConflict_L40 K  x0 x1 n x0_29 x1_30 x2_31 (x3_32 + 1) h35) ∧ (¬ x5_33 ≤ x2_31 → wX10_mostWithoutConflict_L40 K  x0 x1 n x0_29 x1_30 x5_33 (x3_32 + 1) h35))))) x0 x1 x2 x3 n38 0 0 1 0 h)))
def wX10_mostWithoutConflict (a0 : Nat) (h : AH) (K : Int32 → AH → Prop) : Prop :=
  (isO h a0 7) ∧ ∀ h2, h2 = uI h a0 0 0 → (isA h (mR h a0 1) 0) ∧ (vp_in 4 (ln h (mR h a0 1))) ∧ (∃ n40, wX10_mostWithoutConflict_L14 K (fun x0_13 x1_14 h15 => (∃ n39, wX10_mostWithoutConflict_L40 K x0_13 x1_14 n39 0 0 h15)) a0 (mI h2 (mR h a0 1) 4.toNatClampNeg) n40 0 h2)
def wX10_mostWithoutConflictBySets (a0 : Nat) (h : AH) (K : Int32 → AH → Prop) : Prop :=
  (isO h a0 7) ∧ wX10_mostWithoutConflict a0 h (fun r2 h1 => K r2 h1)
def wX10_refusalReason_J13 (K : Int32 → AH → Prop)  (x0 : Nat) (y0 : Nat) (y1 : Int32) (h : AH) : Prop :=
  (isO h y0 7) ∧ ∀ h4, h4 = uI h y0 0 y1 → (isO h x0 7) ∧ (narrow .char (.int (((mI h4 x0 21).toUInt32 % 65536).toInt32)) = .int (((mI h4 x0 21).toUInt32 % 65536).toInt32)) ∧ K (((mI h4 x0 21).toUInt32 % 65536).toInt32) h4
def wX10_refusalReason (a0 : Nat) (h : AH) (K : Int32 → AH → Prop) : Prop :=
  (isO h a0 7) ∧ ((¬ mI h a0 21 = 0 → (wX10_refusalReason_J13 K a0 a0 0 h)) ∧ (mI h a0 21 = 0 → (wX10_refusalReason_J13 K a0 a0 1 h)))
def wX10_refusalBlock (a0 : Nat) (h : AH) (K : Int32 → AH → Prop) : Prop :=
  (isO h a0 7) ∧ ∀ h2, h2 = uI h a0 0 0 → ((¬ mI h2 a0 22 = (-1) → K (mI h2 a0 22) h2) ∧ (mI h2 a0 22 = (-1) → wX10_fails a0 1 h2 (fun r5 h4 => K r5 h4)))
def wX10_time (a0 : Nat) (h : AH) (K : Int32 → AH → Prop) : Prop :=
  (isO h a0 7) ∧ ∀ h2, h2 = uI h a0 0 0 → (isA h (mR h a0 1) 0) ∧ (vp_in 6 (ln h (mR h a0 1))) ∧ K (mI h2 (mR h a0 1) 6.toNatClampNeg) h2
def wX10_arrived (a0 : Nat) (h : AH) (K : Int32 → AH → Prop) : Prop :=
  (isO h a0 7) ∧ ∀ h2, h2 = uI h a0 0 0 → (isA h (mR h a0 1) 0) ∧ (vp_in 7 (ln h (mR h a0 1))) ∧ K (mI h2 (mR h a0 1) 7.toNatClampNeg) h2
def wX10_totalDelay (a0 : Nat) (h : AH) (K : Int64 → AH → Prop) : Prop :=
  (isO h a0 7) ∧ ∀ h2, h2 = uI h a0 0 0 → (isA h (mR h a0 1) 0) ∧ (vp_in 8 (ln h (mR h a0 1))) ∧ K ((mI h2 (mR h a0 1) 8.toNatClampNeg).toInt64) h2
def wX10_meanDelay_J15 (K : UInt64 → AH → Prop)  (x0 : Nat) (y0 : Nat) (y1 : Int32) (h : AH) : Prop :=
  (isO h y0 7) ∧ ∀ h6, h6 = uI h y0 0 y1 → (isO h x0 7) ∧ ((mI h6 x0 0 ≤ 0 → (isA h (mR h x0 1) 0) ∧ (vp_in 8 (ln h (mR h x0 1))) ∧ (vp_in 3 (ln h (mR h x0 1))) ∧ (vf_n64 (FP.ddiv (FP.i2d (mI h6 (mR h x0 1) 8.toNatClampNeg)) (FP.i2d (mI h6 (mR h x0 1) 3.toNatClampNeg)))) ∧ K (FP.ddiv (FP.i2d (mI h6 (mR h x0 1) 8.toNatClampNeg)) (FP.i2d (mI h6 (mR h x0 1) 3.toNatClampNeg))) h6) ∧ (¬ mI h6 x0 0 ≤ 0 → K FP.dconst0 h6))
def wX10_meanDelay (a0 : Nat) (h : AH) (K : UInt64 → AH → Prop) : Prop :=
  (isO h a0 7) ∧ (isA h (mR h a0 1) 0) ∧ (vp_in 3 (ln h (mR h a0 1))) ∧ ((¬ mI h (mR h a0 1) 3.toNatClampNeg = 0 → (wX10_meanDelay_J15 K a0 a0 0 h)) ∧ (mI h (mR h a0 1) 3.toNatClampNeg = 0 → (wX10_meanDelay_J15 K a0 a0 1 h)))
def wX10_usedShare_L31 (K : UInt32 → AH → Prop)  (x0 : Nat) : Nat → Int32 → Int32 → AH → Prop
  | 0 => fun _ _ _ => False
  | n + 1 => fun x1 x2 h =>
  (isO h x0 7) ∧ (isA h (mR h x0 1) 0) ∧ (vp_in 0 (ln h (mR h x0 1))) ∧ ((mI h (mR h x0 1) 0.toNatClampNeg ≤ x2 → (vf_n32 (FP.fdiv (FP.i2f x1) (FP.i2f (mI h (mR h x0 1) 0.toNatClampNeg)))) ∧ K (FP.fdiv (FP.i2f x1) (FP.i2f (mI h (mR h x0 1) 0.toNatClampNeg))) h) ∧ (¬ mI h (mR h x0 1) 0.toNatClampNeg ≤ x2 → wX10_block x0 x2 4 h (fun r15 h14 => (isO h14 x0 7) ∧ wX10_block x0 x2 5 h14 (fun r17 h16 => (((r15 + r17) ≤ 0 → wX10_usedShare_L31 K  x0 n x0 (x1 + 0) (x2 + 1) h16) ∧ (¬ (r15 + r17) ≤ 0 → wX10_usedShare_L31 K  x0 n x0 (x1 + 1) (x2 + 1) h16))))))
def wX10_usedShare_J15 (K : UInt32 → AH → Prop)  (x0 : Nat) (y0 : Nat) (y1 : Int32) (h : AH) : Prop :=
  (isO h y0 7) ∧ ∀ h6, h6 = uI h y0 0 y1 → (isO h x0 7) ∧ ((mI h6 x0 0 ≤ 0 → (∃ n20, wX10_usedShare_L31 K x0 n20 0 0 h6)) ∧ (¬ mI h6 x0 0 ≤ 0 → K FP.fconst0 h6))
def wX10_usedShare (a0 : Nat) (h : AH) (K : UInt32 → AH → Prop) : Prop :=
  (isO h a0 7) ∧ (isA h (mR h a0 1) 0) ∧ (vp_in 0 (ln h (mR h a0 1))) ∧ ((¬ mI h (mR h a0 1) 0.toNatClampNeg = 0 → (wX10_usedShare_J15 K a0 a0 0 h)) ∧ (mI h (mR h a0 1) 0.toNatClampNeg = 0 → (wX10_usedShare_J15 K a0 a0 1 h)))
def wX10_isConsistent (a0 : Nat) (h : AH) (K : Int32 → AH → Prop) : Prop :=
  (isO h a0 7) ∧ ∀ h2, h2 = uI h a0 0 0 → K 1 h2
def wX10_writes (a0 : Nat) (a1 : Int32) (h : AH) (K : AH → Prop) : Prop :=
  (isO h a0 7) ∧ (isA h (mR h a0 9) 0) ∧ (nZ ≤ (mR h a0 9)) ∧ (vp_in (mI h a0 16) (ln h (mR h a0 9))) ∧ ∀ h5, h5 = uI h (mR h a0 9) (mI h a0 16).toNatClampNeg a1 → ∀ h6, h6 = uI h5 a0 16 (mI h5 a0 16 + 1) → K h6
def wX10_writesNumber_J62 (K : AH → Prop)  (x0 : Nat) (x1 : Int32) (h : AH) : Prop :=
  (isO h x0 7) ∧ wX10_writes x0 (48 + (x1 - x1 / 10 * 10)) h (fun h4 => K h4)
def wX10_writesNumber_J42 (K : AH → Prop)  (x0 : Nat) (x1 : Int32) (h : AH) : Prop :=
  ((x1 ≤ 9 → (wX10_writesNumber_J62 K x0 x1 h)) ∧ (¬ x1 ≤ 9 → (isO h x0 7) ∧ wX10_writes x0 (48 + ((x1 / 10) - (x1 / 10) / 10 * 10)) h (fun h7 => (wX10_writesNumber_J62 K x0 x1 h7))))
def wX10_writesNumber_J22 (K : AH → Prop)  (x0 : Nat) (x1 : Int32) (h : AH) : Prop :=
  ((x1 ≤ 99 → (wX10_writesNumber_J42 K x0 x1 h)) ∧ (¬ x1 ≤ 99 → (isO h x0 7) ∧ wX10_writes x0 (48 + ((x1 / 100) - (x1 / 100) / 10 * 10)) h (fun h10 => (wX10_writesNumber_J42 K x0 x1 h10))))
def wX10_writesNumber (a0 : Nat) (a1 : Int32) (h : AH) (K : AH → Prop) : Prop :=
  ((a1 ≤ 999 → (wX10_writesNumber_J22 K a0 a1 h)) ∧ (¬ a1 ≤ 999 → (isO h a0 7) ∧ wX10_writes a0 (48 + ((a1 / 1000) - (a1 / 1000) / 10 * 10)) h (fun h13 => (wX10_writesNumber_J22 K a0 a1 h13))))
def wX10_writeBlocks_J51 (K : Int32 → AH → Prop) (c12 : Nat → Int32 → AH → Prop) (x0 : Nat) (x1 : Int32) (x2 : Int32) (h : AH) : Prop :=
  ((¬ x2 = 114 → c12 x0 (x1 + 1) h) ∧ (x2 = 114 → (isO h x0 7) ∧ wX10_block x0 x1 5 h (fun r15 h14 => (isO h14 x0 7) ∧ wX10_writesNumber x0 (r15 - 1) h14 (fun h16 => c12 x0 (x1 + 1) h16))))
def wX10_writeBlocks_L12 (K : Int32 → AH → Prop)  (x0 : Nat) : Nat → Int32 → AH → Prop
  | 0 => fun _ _ => False
  | n + 1 => fun x1 h =>
  (isO h x0 7) ∧ (isA h (mR h x0 1) 0) ∧ (vp_in 0 (ln h (mR h x0 1))) ∧ ((mI h (mR h x0 1) 0.toNatClampNeg ≤ x1 → K (mI h x0 16) h) ∧ (¬ mI h (mR h x0 1) 0.toNatClampNeg ≤ x1 → wX10_look x0 x1 h (fun r9 h8 => (isO h8 x0 7) ∧ wX10_writes x0 r9 h8 (fun h10 => ((¬ r9 = 111 → (wX10_writeBlocks_J51 K (wX10_writeBlocks_L12 K  x0 n) x0 x1 r9 h10)) ∧ (r9 = 111 → (isO h10 x0 7) ∧ wX10_block x0 x1 4 h10 (fun r21 h20 => (isO h20 x0 7) ∧ wX10_writesNumber x0 (r21 - 1) h20 (fun h22 => (wX10_writeBlocks_J51 K (wX10_writeBlocks_L12 K  x0 n) x0 x1 r9 h22)))))))))
def wX10_writeBlocks (a0 : Nat) (h : AH) (K : Int32 → AH → Prop) : Prop :=
  (isO h a0 7) ∧ ∀ h2, h2 = uI h a0 0 0 → ∀ h3, h3 = uI h2 a0 16 0 → (∃ n27, wX10_writeBlocks_L12 K a0 n27 0 h3)
def wX10_writeTrain_L57 (K : Int32 → AH → Prop)  (x0 : Nat) (x2 : Int32) : Nat → Int32 → AH → Prop
  | 0 => fun _ _ => False
  | n + 1 => fun x3 h =>
  (isO h x0 7) ∧ wX10_train x0 x2 6 h (fun r18 h17 => ((r18 ≤ x3 → (isO h17 x0 7) ∧ wX10_train x0 x2 3 h17 (fun r21 h20 => ((¬ r21 = 0 → (isO h20 x0 7) ∧ K (mI h20 x0 16) h20) ∧ (r21 = 0 → (isO h20 x0 7) ∧ wX10_writes x0 63 h20 (fun h24 => (isO h24 x0 7) ∧ wX10_train x0 x2 2 h24 (fun r27 h26 => (isO h26 x0 7) ∧ wX10_writesNumber x0 r27 h26 (fun h28 => (isO h28 x0 7) ∧ K (mI h28 x0 16) h28))))))) ∧ (¬ r18 ≤ x3 → (isO h17 x0 7) ∧ wX10_writes x0 62 h17 (fun h35 => (isO h35 x0 7) ∧ wX10_train x0 x2 (7 + x3) h35 (fun r38 h37 => (isO h37 x0 7) ∧ wX10_writesNumber x0 r38 h37 (fun h39 => wX10_writeTrain_L57 K  x0 x2 n x0 x2 (x3 + 1) h39))))))
def wX10_writeTrain_J17 (K : Int32 → AH → Prop)  (x0 : Nat) (x1 : Int32) (x2 : Int32) (y0 : Nat) (y1 : Int32) (h : AH) : Prop :=
  (isO h y0 7) ∧ ∀ h5, h5 = uI h y0 0 y1 → (isO h x0 7) ∧ ((mI h5 x0 0 ≤ 0 → ∀ h8, h8 = uI h5 x0 16 0 → wX10_writesNumber x0 x1 h8 (fun h9 => (isO h9 x0 7) ∧ wX10_writes x0 64 h9 (fun h11 => (isO h11 x0 7) ∧ wX10_train x0 x2 1 h11 (fun r14 h13 => (isO h13 x0 7) ∧ wX10_writesNumber x0 r14 h13 (fun h15 => (∃ n45, wX10_writeTrain_L57 K x0 x2 n45 1 h15)))))) ∧ (¬ mI h5 x0 0 ≤ 0 → K 0 h5))
def wX10_writeTrain (a0 : Nat) (a1 : Int32) (h : AH) (K : Int32 → AH → Prop) : Prop :=
  (isO h a0 7) ∧ wX10_placeOf a0 a1 h (fun r2 h1 => ((¬ r2 = (-1) → (wX10_writeTrain_J17 K a0 a1 r2 a0 0 h1)) ∧ (r2 = (-1) → (wX10_writeTrain_J17 K a0 a1 r2 a0 1 h1))))
def wX10_charAt_J20 (K : Int32 → AH → Prop)  (x0 : Nat) (x1 : Int32) (y0 : Nat) (y1 : Int32) (h : AH) : Prop :=
  (isO h y0 7) ∧ ∀ h6, h6 = uI h y0 0 y1 → (isO h x0 7) ∧ ((mI h6 x0 0 ≤ 0 → (isA h (mR h x0 9) 0) ∧ (vp_in x1 (ln h (mR h x0 9))) ∧ (narrow .char (.int (((mI h6 (mR h x0 9) x1.toNatClampNeg).toUInt32 % 65536).toInt32)) = .int (((mI h6 (mR h x0 9) x1.toNatClampNeg).toUInt32 % 65536).toInt32)) ∧ K (((mI h6 (mR h x0 9) x1.toNatClampNeg).toUInt32 % 65536).toInt32) h6) ∧ (¬ mI h6 x0 0 ≤ 0 → K 0 h6))
def wX10_charAt (a0 : Nat) (a1 : Int32) (h : AH) (K : Int32 → AH → Prop) : Prop :=
  (isO h a0 7) ∧ wX10_in a1 0 (mI h a0 16 - 1) h (fun r3 h2 => ((r3 = 0 → (wX10_charAt_J20 K a0 a1 a0 1 h2)) ∧ (¬ r3 = 0 → (wX10_charAt_J20 K a0 a1 a0 0 h2))))
def wX10_type_J15 (K : Int32 → AH → Prop)  (x0 : Nat) (x1 : Int32) (y0 : Nat) (y1 : Int32) (h : AH) : Prop :=
  (isO h y0 7) ∧ ∀ h4, h4 = uI h y0 0 y1 → (isO h x0 7) ∧ ((mI h4 x0 0 ≤ 0 → (isA h (mR h x0 7) 0) ∧ (nZ ≤ (mR h x0 7)) ∧ (vp_in (mI h4 x0 15) (ln h (mR h x0 7))) ∧ ∀ h10, h10 = uI h4 (mR h x0 7) (mI h4 x0 15).toNatClampNeg x1 → ∀ h11, h11 = uI h10 x0 15 (mI h10 x0 15 + 1) → K (mI h11 x0 15) h11) ∧ (¬ mI h4 x0 0 ≤ 0 → K 0 h4))
def wX10_type (a0 : Nat) (a1 : Int32) (h : AH) (K : Int32 → AH → Prop) : Prop :=
  (isO h a0 7) ∧ ((¬ mI h a0 15 = 60 → (wX10_type_J15 K a0 a1 a0 0 h)) ∧ (mI h a0 15 = 60 → (wX10_type_J15 K a0 a1 a0 1 h)))
def wX10_here (a0 : Nat) (a1 : Int32) (h : AH) (K : Int32 → AH → Prop) : Prop :=
  (isO h a0 7) ∧ ((mI h a0 24 ≤ (mI h a0 23 + a1) → K (-1) h) ∧ (¬ mI h a0 24 ≤ (mI h a0 23 + a1) → (isA h (mR h a0 7) 0) ∧ (vp_in (mI h a0 23 + a1) (ln h (mR h a0 7))) ∧ K (mI h (mR h a0 7) (mI h a0 23 + a1).toNatClampNeg) h))
def wX10_says_J56 (K : AH → Prop) (c2 : Nat → Nat → Int32 → AH → Prop) (x0 : Nat) (x1 : Nat) (x2 : Int32) (y0 : Nat) (y1 : Int32) (y2 : Int32) (h : AH) : Prop :=
  (isO h y0 7) ∧ ∀ h18, h18 = uI h y0 23 (y1 + y2) → c2 x0 x1 (x2 + 1) h18
def wX10_says_J36 (K : AH → Prop) (c2 : Nat → Nat → Int32 → AH → Prop) (x0 : Nat) (x1 : Nat) (x2 : Int32) (y0 : Nat) (y1 : Int32) (h : AH) : Prop :=
  (isO h y0 7) ∧ (narrow .boolean (.int y1) = .int y1) ∧ (fits .boolean (.int y1) = true) ∧ ∀ h12, h12 = uI h y0 26 y1 → (isO h x0 7) ∧ ((mI h12 x0 26 = 0 → (wX10_says_J56 K c2 x0 x1 x2 x0 (mI h12 x0 23) 1 h12)) ∧ (¬ mI h12 x0 26 = 0 → (wX10_says_J56 K c2 x0 x1 x2 x0 (mI h12 x0 23) 0 h12)))
def wX10_says_L2 (K : AH → Prop)  (x0 : Nat) (x1 : Nat) : Nat → Int32 → AH → Prop
  | 0 => fun _ _ => False
  | n + 1 => fun x2 h =>
  (mS h x1 = (20, 0)) ∧ (x1 < nZ) ∧ wJ0_length_8abf5 x1 h (fun r2 h1 => ((r2 ≤ x2 → K h1) ∧ (¬ r2 ≤ x2 → (isO h1 x0 7) ∧ ((¬ mI h1 x0 26 = 0 → K h1) ∧ (mI h1 x0 26 = 0 → wX10_here x0 0 h1 (fun r7 h6 => (mS h6 x1 = (20, 0)) ∧ (x1 < nZ) ∧ wJ0_charAt_5068e x1 x2 h6 (fun r9 h8 => ((r7 = r9 → (wX10_says_J36 K (wX10_says_L2 K  x0 x1 n) x0 x1 x2 x0 0 h8)) ∧ (¬ r7 = r9 → (wX10_says_J36 K (wX10_says_L2 K  x0 x1 n) x0 x1 x2 x0 1 h8))))))))))
def wX10_says (a0 : Nat) (a1 : Nat) (h : AH) (K : AH → Prop) : Prop :=
  (∃ n23, wX10_says_L2 K a0 a1 n23 0 h)
def wX10_number_L11 (K : AH → Prop) (c71 : Nat → Int32 → Int32 → Int32 → AH → Prop) (x0 : Nat) (x2 : Int32) (x3 : Int32) : Nat → Int32 → Int32 → AH → Prop
  | 0 => fun _ _ _ => False
  | n + 1 => fun x4 x5 h =>
  (isO h x0 7) ∧ ((¬ mI h x0 26 = 0 → c71 x0 x2 x4 x5 h) ∧ (mI h x0 26 = 0 → ((x3 ≤ x5 → c71 x0 x2 x4 x5 h) ∧ (¬ x3 ≤ x5 → wX10_here x0 0 h (fun r7 h6 => wX10_in r7 48 57 h6 (fun r9 h8 => ((r9 = 0 → c71 x0 x2 x4 x5 h8) ∧ (¬ r9 = 0 → (isO h8 x0 7) ∧ wX10_here x0 0 h8 (fun r12 h11 => (isO h11 x0 7) ∧ ∀ h14, h14 = uI h11 x0 23 (mI h11 x0 23 + 1) → wX10_number_L11 K c71 x0 x2 x3 n x0 x2 x3 (((10 * x4) + r12) - 48) (x5 + 1) h14)))))))))
def wX10_number_J89 (K : AH → Prop)  (x0 : Nat) (x2 : Int32) (x4 : Int32) (y0 : Nat) (y1 : Int32) (h : AH) : Prop :=
  (isO h y0 7) ∧ (narrow .boolean (.int y1) = .int y1) ∧ (fits .boolean (.int y1) = true) ∧ ∀ h24, h24 = uI h y0 26 y1 → (isO h x0 7) ∧ (isA h (mR h x0 8) 0) ∧ (nZ ≤ (mR h x0 8)) ∧ (vp_in ((4 * mI h24 x0 25) + x2) (ln h (mR h x0 8))) ∧ ∀ h31, h31 = uI h24 (mR h x0 8) ((4 * mI h24 x0 25) + x2).toNatClampNeg x4 → K h31
def wX10_number_J84 (K : AH → Prop)  (x0 : Nat) (x2 : Int32) (x4 : Int32) (y0 : Nat) (h : AH) : Prop :=
  (wX10_number_J89 K x0 x2 x4 y0 1 h)
def wX10_number (a0 : Nat) (a1 : Nat) (a2 : Int32) (a3 : Int32) (h : AH) (K : AH → Prop) : Prop :=
  (isO h a0 7) ∧ wX10_says a0 a1 h (fun h1 => (∃ n33, wX10_number_L11 K (fun x0_16 x2_17 x4_18 x5_19 h20 => (isO h20 x0_16 7) ∧ ((¬ mI h20 x0_16 26 = 0 → (wX10_number_J84 K x0_16 x2_17 x4_18 x0_16 h20)) ∧ (mI h20 x0_16 26 = 0 → ((¬ x5_19 = 0 → (wX10_number_J89 K x0_16 x2_17 x4_18 x0_16 0 h20)) ∧ (x5_19 = 0 → (wX10_number_J84 K x0_16 x2_17 x4_18 x0_16 h20)))))) a0 a2 a3 n33 0 0 h1))
def wX10_readsWait (a0 : Nat) (h : AH) (K : AH → Prop) : Prop :=
  (isO h a0 7) ∧ wX10_says a0 34 h (fun h1 => (isO h1 a0 7) ∧ (isA h1 (mR h1 a0 8) 0) ∧ (nZ ≤ (mR h1 a0 8)) ∧ (vp_in ((4 * mI h1 a0 25) + 1) (ln h1 (mR h1 a0 8))) ∧ ∀ h7, h7 = uI h1 (mR h1 a0 8) ((4 * mI h1 a0 25) + 1).toNatClampNeg 1 → ((¬ mI h7 a0 26 = 0 → K h7) ∧ (mI h7 a0 26 = 0 → wX10_here a0 0 h7 (fun r10 h9 => ((¬ r10 = 32 → K h9) ∧ (r10 = 32 → (isO h9 a0 7) ∧ wX10_number a0 60 1 3 h9 (fun h12 => K h12)))))))
def wX10_readsOne_J324 (K : AH → Prop)  (x0 : Nat) (h : AH) : Prop :=
  (isO h x0 7) ∧ ∀ h15, h15 = uI h x0 25 (mI h x0 25 + 1) → K h15
def wX10_readsOne_J56 (K : AH → Prop)  (x0 : Nat) (x1 : Int32) (x2 : Int32) (y0 : Nat) (y1 : Int32) (y2 : Int32) (h : AH) : Prop :=
  (isA h y0 0) ∧ (nZ ≤ y0) ∧ (vp_in y1 (ln h y0)) ∧ ∀ h11, h11 = uI h y0 y1.toNatClampNeg y2 → ((x1 = 98 → (isO h x0 7) ∧ wX10_number x0 38 1 1 h11 (fun h12 => (wX10_readsOne_J324 K x0 h12))) ∧ (x1 = 102 → (isO h x0 7) ∧ wX10_number x0 56 1 3 h11 (fun h17 => (wX10_readsOne_J324 K x0 h17))) ∧ (x1 = 108 → (isO h x0 7) ∧ wX10_number x0 46 1 3 h11 (fun h20 => (isO h20 x0 7) ∧ wX10_number x0 42 2 3 h20 (fun h22 => (wX10_readsOne_J324 K x0 h22)))) ∧ (x1 = 111 → (isO h x0 7) ∧ wX10_number x0 58 1 3 h11 (fun h26 => (wX10_readsOne_J324 K x0 h26))) ∧ (x1 = 112 → (isO h x0 7) ∧ wX10_number x0 40 1 3 h11 (fun h29 => (isO h29 x0 7) ∧ wX10_number x0 42 2 3 h29 (fun h31 => (isO h31 x0 7) ∧ wX10_number x0 44 3 3 h31 (fun h33 => (wX10_readsOne_J324 K x0 h33))))) ∧ (x1 = 115 → ((x2 = 0 → (isO h x0 7) ∧ wX10_number x0 54 1 3 h11 (fun h39 => (wX10_readsOne_J324 K x0 h39))) ∧ (¬ x2 = 0 → (isO h x0 7) ∧ wX10_number x0 52 1 3 h11 (fun h42 => (wX10_readsOne_J324 K x0 h42))))) ∧ (x1 = 116 → ((x2 = 0 → (isO h x0 7) ∧ wX10_number x0 50 1 3 h11 (fun h46 => (isO h46 x0 7) ∧ wX10_number x0 42 2 3 h46 (fun h48 => (wX10_readsOne_J324 K x0 h48)))) ∧ (¬ x2 = 0 → (isO h x0 7) ∧ wX10_number x0 48 1 1 h11 (fun h52 => (wX10_readsOne_J324 K x0 h52))))) ∧ (x1 = 119 → (isO h x0 7) ∧ wX10_readsWait x0 h11 (fun h55 => (wX10_readsOne_J324 K x0 h55))) ∧ (¬ x1 = 98 ∧ ¬ x1 = 102 ∧ ¬ x1 = 108 ∧ ¬ x1 = 111 ∧ ¬ x1 = 112 ∧ ¬ x1 = 115 ∧ ¬ x1 = 116 ∧ ¬ x1 = 119 → (isO h x0 7) ∧ ∀ h59, h59 = uI h11 x0 26 1 → (wX10_readsOne_J324 K x0 h59)))
def wX10_readsOne_J33 (K : AH → Prop)  (x0 : Nat) (x1 : Int32) (y0 : Int32) (h : AH) : Prop :=
  (isO h x0 7) ∧ ((y0 = 0 → (wX10_readsOne_J56 K x0 x1 y0 (mR h x0 8) (4 * mI h x0 25) x1 h)) ∧ (¬ y0 = 0 → (wX10_readsOne_J56 K x0 x1 y0 (mR h x0 8) (4 * mI h x0 25) (x1 + 100) h)))
def wX10_readsOne_J32 (K : AH → Prop)  (x0 : Nat) (x1 : Int32) (h : AH) : Prop :=
  (wX10_readsOne_J33 K x0 x1 0 h)
def wX10_readsOne_J28 (K : AH → Prop)  (x0 : Nat) (x1 : Int32) (h : AH) : Prop :=
  (wX10_readsOne_J33 K x0 x1 1 h)
def wX10_readsOne (a0 : Nat) (h : AH) (K : AH → Prop) : Prop :=
  (isO h a0 7) ∧ wX10_here a0 0 h (fun r2 h1 => (isO h1 a0 7) ∧ wX10_here a0 1 h1 (fun r4 h3 => ((¬ r4 = 104 → (wX10_readsOne_J32 K a0 r2 h3)) ∧ (r4 = 104 → ((r2 = 115 → (wX10_readsOne_J28 K a0 r2 h3)) ∧ (¬ r2 = 115 → ((¬ r2 = 116 → (wX10_readsOne_J32 K a0 r2 h3)) ∧ (r2 = 116 → (wX10_readsOne_J28 K a0 r2 h3)))))))))
def wX10_does (a0 : Nat) (a1 : Int32) (h : AH) (K : Int32 → AH → Prop) : Prop :=
  (isO h a0 7) ∧ (isA h (mR h a0 8) 0) ∧ (vp_in ((4 * a1) + 1) (ln h (mR h a0 8))) ∧ ∀ v4 : Int32, v4 = mI h (mR h a0 8) ((4 * a1) + 1).toNatClampNeg → (vp_in ((4 * a1) + 2) (ln h (mR h a0 8))) ∧ ∀ v7 : Int32, v7 = mI h (mR h a0 8) ((4 * a1) + 2).toNatClampNeg → (vp_in (4 * a1) (ln h (mR h a0 8))) ∧ ((mI h (mR h a0 8) (4 * a1).toNatClampNeg = 98 → wX10_lays a0 v4 h (fun r11 h10 => K r11 h10)) ∧ (mI h (mR h a0 8) (4 * a1).toNatClampNeg = 102 → wX10_frees a0 v4 h (fun r13 h12 => K r13 h12)) ∧ (mI h (mR h a0 8) (4 * a1).toNatClampNeg = 108 → wX10_links a0 v4 v7 h (fun r15 h14 => K r15 h14)) ∧ (mI h (mR h a0 8) (4 * a1).toNatClampNeg = 111 → wX10_opens a0 v4 h (fun r17 h16 => K r17 h16)) ∧ (mI h (mR h a0 8) (4 * a1).toNatClampNeg = 112 → (vp_in ((4 * a1) + 3) (ln h (mR h a0 8))) ∧ wX10_forks a0 v4 v7 (mI h (mR h a0 8) ((4 * a1) + 3).toNatClampNeg) h (fun r20 h19 => K r20 h19)) ∧ (mI h (mR h a0 8) (4 * a1).toNatClampNeg = 115 → wX10_clears a0 v4 h (fun r22 h21 => K r22 h21)) ∧ (mI h (mR h a0 8) (4 * a1).toNatClampNeg = 116 → wX10_comes a0 v4 v7 h (fun r24 h23 => K r24 h23)) ∧ (mI h (mR h a0 8) (4 * a1).toNatClampNeg = 215 → wX10_shuts a0 v4 h (fun r26 h25 => K r26 h25)) ∧ (mI h (mR h a0 8) (4 * a1).toNatClampNeg = 216 → wX10_throwsOver a0 v4 h (fun r28 h27 => K r28 h27)) ∧ (¬ mI h (mR h a0 8) (4 * a1).toNatClampNeg = 98 ∧ ¬ mI h (mR h a0 8) (4 * a1).toNatClampNeg = 102 ∧ ¬ mI h (mR h a0 8) (4 * a1).toNatClampNeg = 108 ∧ ¬ mI h (mR h a0 8) (4 * a1).toNatClampNeg = 111 ∧ ¬ mI h (mR h a0 8) (4 * a1).toNatClampNeg = 112 ∧ ¬ mI h (mR h a0 8) (4 * a1).toNatClampNeg = 115 ∧ ¬ mI h (mR h a0 8) (4 * a1).toNatClampNeg = 116 ∧ ¬ mI h (mR h a0 8) (4 * a1).toNatClampNeg = 215 ∧ ¬ mI h (mR h a0 8) (4 * a1).toNatClampNeg = 216 → wX10_passes a0 v4 h (fun r30 h29 => K r30 h29)))
def wX10_run_L36 (K : Int32 → AH → Prop) (c70 : Nat → AH → Prop) (x0 : Nat) : Nat → AH → Prop
  | 0 => fun  _ => False
  | n + 1 => fun  h =>
  (isO h x0 7) ∧ ((¬ mI h x0 26 = 0 → c70 x0 h) ∧ (mI h x0 26 = 0 → wX10_here x0 0 h (fun r14 h13 => ((¬ r14 = 59 → c70 x0 h13) ∧ (r14 = 59 → (isO h13 x0 7) ∧ ∀ h17, h17 = uI h13 x0 23 (mI h13 x0 23 + 1) → wX10_readsOne x0 h17 (fun h18 => wX10_run_L36 K c70 x0 n x0 h18))))))
def wX10_run_J88 (K : Int32 → AH → Prop)  (x0 : Nat) (h : AH) : Prop :=
  (isO h x0 7) ∧ ∀ h25, h25 = uI h x0 17 (mI h x0 23) → wX10_fails x0 1 h25 (fun r27 h26 => K r27 h26)
def wX10_run_L104 (K : Int32 → AH → Prop) (c123 : Nat → Int32 → AH → Prop) (x0 : Nat) : Nat → Int32 → AH → Prop
  | 0 => fun _ _ => False
  | n + 1 => fun x1 h =>
  (isO h x0 7) ∧ ((mI h x0 25 ≤ x1 → wX10_changed x0 (mI h x0 25) h (fun r32 h31 => K r32 h31)) ∧ (¬ mI h x0 25 ≤ x1 → wX10_does x0 x1 h (fun r34 h33 => ((¬ r34 = 0 → c123 x0 x1 h33) ∧ (r34 = 0 → wX10_run_L104 K c123 x0 n x0 (x1 + 1) h33)))))
def wX10_run_L125 (K : Int32 → AH → Prop)  (x0 : Nat) (x1 : Int32) : Nat → Int32 → AH → Prop
  | 0 => fun _ _ => False
  | n + 1 => fun x2 h =>
  ((281 ≤ x2 → (isO h x0 7) ∧ ∀ h41, h41 = uI h x0 18 x1 → wX10_fails x0 2 h41 (fun r43 h42 => K r43 h42)) ∧ (¬ 281 ≤ x2 → (isO h x0 7) ∧ (isA h (mR h x0 2) 0) ∧ (vp_in x2 (ln h (mR h x0 2))) ∧ (isA h (mR h x0 1) 0) ∧ (nZ ≤ (mR h x0 1)) ∧ (vp_in x2 (ln h (mR h x0 1))) ∧ ∀ h50, h50 = uI h (mR h x0 1) x2.toNatClampNeg (mI h (mR h x0 2) x2.toNatClampNeg) → wX10_run_L125 K  x0 x1 n x0 x1 (x2 + 1) h50))
def wX10_run (a0 : Nat) (h : AH) (K : Int32 → AH → Prop) : Prop :=
  (isO h a0 7) ∧ wX10_remembers a0 h (fun h1 => (isO h1 a0 7) ∧ ∀ h4, h4 = uI h1 a0 23 0 → ∀ h5, h5 = uI h4 a0 24 (mI h4 a0 15) → ∀ h6, h6 = uI h5 a0 15 0 → ∀ h7, h7 = uI h6 a0 25 0 → ∀ h8, h8 = uI h7 a0 26 0 → wX10_readsOne a0 h8 (fun h9 => (∃ n53, wX10_run_L36 K (fun x0_20 h21 => (isO h21 x0_20 7) ∧ ((¬ mI h21 x0_20 26 = 0 → (wX10_run_J88 K x0_20 h21)) ∧ (mI h21 x0_20 26 = 0 → ((mI h21 x0_20 24 ≤ mI h21 x0_20 23 → (∃ n52, wX10_run_L104 K (fun x0_36 x1_37 h38 => (∃ n51, wX10_run_L125 K x0_36 x1_37 n51 0 h38)) x0_20 n52 0 h21)) ∧ (¬ mI h21 x0_20 24 ≤ mI h21 x0_20 23 → (wX10_run_J88 K x0_20 h21)))))) a0 n53  h9)))
def wX10_errorPosition (a0 : Nat) (h : AH) (K : Int32 → AH → Prop) : Prop :=
  (isO h a0 7) ∧ ∀ h2, h2 = uI h a0 0 0 → ((¬ mI h2 a0 17 = (-1) → K (mI h2 a0 17) h2) ∧ (mI h2 a0 17 = (-1) → wX10_fails a0 1 h2 (fun r5 h4 => K r5 h4)))
def wX10_failedCommand (a0 : Nat) (h : AH) (K : Int32 → AH → Prop) : Prop :=
  (isO h a0 7) ∧ ∀ h2, h2 = uI h a0 0 0 → ((¬ mI h2 a0 18 = (-1) → K (mI h2 a0 18) h2) ∧ (mI h2 a0 18 = (-1) → wX10_fails a0 1 h2 (fun r5 h4 => K r5 h4)))
def wX10_undo_L30 (K : Int32 → AH → Prop)  (x0 : Nat) : Nat → Int32 → AH → Prop
  | 0 => fun _ _ => False
  | n + 1 => fun x1 h =>
  ((281 ≤ x1 → (isO h x0 7) ∧ K (mI h x0 5) h) ∧ (¬ 281 ≤ x1 → (isO h x0 7) ∧ (isA h (mR h x0 4) 0) ∧ (vp_in ((281 * mI h x0 5) + x1) (ln h (mR h x0 4))) ∧ (isA h (mR h x0 1) 0) ∧ (nZ ≤ (mR h x0 1)) ∧ (vp_in x1 (ln h (mR h x0 1))) ∧ ∀ h13, h13 = uI h (mR h x0 1) x1.toNatClampNeg (mI h (mR h x0 4) ((281 * mI h x0 5) + x1).toNatClampNeg) → wX10_undo_L30 K  x0 n x0 (x1 + 1) h13))
def wX10_undo (a0 : Nat) (h : AH) (K : Int32 → AH → Prop) : Prop :=
  (isO h a0 7) ∧ ∀ h2, h2 = uI h a0 0 0 → ((¬ mI h2 a0 5 = 0 → ∀ h4, h4 = uI h2 a0 5 (mI h2 a0 5 - 1) → (∃ n14, wX10_undo_L30 K a0 n14 0 h4)) ∧ (mI h2 a0 5 = 0 → wX10_fails a0 1 h2 (fun r16 h15 => K r16 h15)))
def wX10_save_L7 (K : Int32 → AH → Prop)  (x0 : Nat) : Nat → Int32 → AH → Prop
  | 0 => fun _ _ => False
  | n + 1 => fun x1 h =>
  ((281 ≤ x1 → (isO h x0 7) ∧ ∀ h5, h5 = uI h x0 6 1 → (isA h (mR h x0 1) 0) ∧ (vp_in 4 (ln h (mR h x0 1))) ∧ K (mI h5 (mR h x0 1) 4.toNatClampNeg) h5) ∧ (¬ 281 ≤ x1 → (isO h x0 7) ∧ (isA h (mR h x0 1) 0) ∧ (vp_in x1 (ln h (mR h x0 1))) ∧ (isA h (mR h x0 3) 0) ∧ (nZ ≤ (mR h x0 3)) ∧ (vp_in x1 (ln h (mR h x0 3))) ∧ ∀ h14, h14 = uI h (mR h x0 3) x1.toNatClampNeg (mI h (mR h x0 1) x1.toNatClampNeg) → wX10_save_L7 K  x0 n x0 (x1 + 1) h14))
def wX10_save (a0 : Nat) (h : AH) (K : Int32 → AH → Prop) : Prop :=
  (isO h a0 7) ∧ ∀ h2, h2 = uI h a0 0 0 → (∃ n15, wX10_save_L7 K a0 n15 0 h2)
def wX10_restore_L20 (K : Int32 → AH → Prop)  (x0 : Nat) : Nat → Int32 → AH → Prop
  | 0 => fun _ _ => False
  | n + 1 => fun x1 h =>
  ((281 ≤ x1 → (isO h x0 7) ∧ ∀ h6, h6 = uI h x0 5 0 → (isA h (mR h x0 1) 0) ∧ (vp_in 4 (ln h (mR h x0 1))) ∧ K (mI h6 (mR h x0 1) 4.toNatClampNeg) h6) ∧ (¬ 281 ≤ x1 → (isO h x0 7) ∧ (isA h (mR h x0 3) 0) ∧ (vp_in x1 (ln h (mR h x0 3))) ∧ (isA h (mR h x0 1) 0) ∧ (nZ ≤ (mR h x0 1)) ∧ (vp_in x1 (ln h (mR h x0 1))) ∧ ∀ h15, h15 = uI h (mR h x0 1) x1.toNatClampNeg (mI h (mR h x0 3) x1.toNatClampNeg) → wX10_restore_L20 K  x0 n x0 (x1 + 1) h15))
def wX10_restore (a0 : Nat) (h : AH) (K : Int32 → AH → Prop) : Prop :=
  (isO h a0 7) ∧ ∀ h2, h2 = uI h a0 0 0 → ((¬ mI h2 a0 6 = 0 → (∃ n16, wX10_restore_L20 K a0 n16 0 h2)) ∧ (mI h2 a0 6 = 0 → wX10_fails a0 1 h2 (fun r18 h17 => K r18 h17)))
def wL_addBlock (a0 : Nat) (a1 : Int32) (a2 : Nat) (h : AH) (K : Int32 → AH → Prop) : Prop :=
  (isO h a0 0) ∧ wX9_addBlock a0 a1 h (fun r2 h1 => (isA h1 a2 1) ∧ (nZ ≤ a2) ∧ (vp_in 0 (ln h1 a2)) ∧ ∀ h6, h6 = uL h1 a2 0.toNatClampNeg r2.toInt64 → K 0 h6) T
def wL_addPoint (a0 : Nat) (a1 : Int32) (a2 : Int32) (a3 : Int32) (a4 : Nat) (h : AH) (K : Int32 → AH → Prop) : Prop :=
  (isO h a0 0) ∧ wX9_addPoint a0 a1 a2 a3 h (fun r2 h1 => (isA h1 a4 1) ∧ (nZ ≤ a4) ∧ (vp_in 0 (ln h1 a4)) ∧ ∀ h6, h6 = uL h1 a4 0.toNatClampNeg r2.toInt64 → K 0 h6) T
def wL_addLink (a0 : Nat) (a1 : Int32) (a2 : Int32) (a3 : Nat) (h : AH) (K : Int32 → AH → Prop) : Prop :=
  (isO h a0 0) ∧ wX9_addLink a0 a1 a2 h (fun r2 h1 => (isA h1 a3 1) ∧ (nZ ≤ a3) ∧ (vp_in 0 (ln h1 a3)) ∧ ∀ h6, h6 = uL h1 a3 0.toNatClampNeg r2.toInt64 → K 0 h6) T
def wL_shut (a0 : Nat) (a1 : Int32) (a2 : Nat) (h : AH) (K : Int32 → AH → Prop) : Prop :=
  (isO h a0 0) ∧ wX9_shut a0 a1 h (fun r2 h1 => (isA h1 a2 1) ∧ (nZ ≤ a2) ∧ (vp_in 0 (ln h1 a2)) ∧ ∀ h6, h6 = uL h1 a2 0.toNatClampNeg r2.toInt64 → K 0 h6) T
def wL_open (a0 : Nat) (a1 : Int32) (a2 : Nat) (h : AH) (K : Int32 → AH → Prop) : Prop :=
  (isO h a0 0) ∧ wX9_open a0 a1 h (fun r2 h1 => (isA h1 a2 1) ∧ (nZ ≤ a2) ∧ (vp_in 0 (ln h1 a2)) ∧ ∀ h6, h6 = uL h1 a2 0.toNatClampNeg r2.toInt64 → K 0 h6) T
def wL_throwPoint_J15 (K : Int32 → AH → Prop)  (y0 : Nat) (y1 : Int32) (y2 : Int64) (h : AH) : Prop :=
  (isA h y0 1) ∧ (nZ ≤ y0) ∧ (vp_in y1 (ln h y0)) ∧ ∀ h7, h7 = uL h y0 y1.toNatClampNeg y2 → K 0 h7
def wL_throwPoint (a0 : Nat) (a1 : Int32) (a2 : Nat) (h : AH) (K : Int32 → AH → Prop) : Prop :=
  (isO h a0 0) ∧ wX9_throwPoint a0 a1 h (fun r2 h1 => ((r2 = 0 → (wL_throwPoint_J15 K a2 0 0 h1)) ∧ (¬ r2 = 0 → (wL_throwPoint_J15 K a2 0 1 h1)))) T
def wL_addTrain (a0 : Nat) (a1 : Int32) (a2 : Int32) (a3 : Nat) (h : AH) (K : Int32 → AH → Prop) : Prop :=
  (isO h a0 0) ∧ wX9_addTrain a0 a1 a2 h (fun r2 h1 => (isA h1 a3 1) ∧ (nZ ≤ a3) ∧ (vp_in 0 (ln h1 a3)) ∧ ∀ h6, h6 = uL h1 a3 0.toNatClampNeg r2.toInt64 → K 0 h6) T
def wL_setRoute (a0 : Nat) (a1 : Int32) (a2 : Nat) (h : AH) (K : Int32 → AH → Prop) : Prop :=
  (isO h a0 0) ∧ wX9_setRoute a0 a1 h (fun r2 h1 => (isA h1 a2 1) ∧ (nZ ≤ a2) ∧ (vp_in 0 (ln h1 a2)) ∧ ∀ h6, h6 = uL h1 a2 0.toNatClampNeg r2.toInt64 → K 0 h6) T
def wL_releaseRoute (a0 : Nat) (a1 : Int32) (a2 : Nat) (h : AH) (K : Int32 → AH → Prop) : Prop :=
  (isO h a0 0) ∧ wX9_releaseRoute a0 a1 h (fun r2 h1 => (isA h1 a2 1) ∧ (nZ ≤ a2) ∧ (vp_in 0 (ln h1 a2)) ∧ ∀ h6, h6 = uL h1 a2 0.toNatClampNeg r2.toInt64 → K 0 h6) T
def wL_pass (a0 : Nat) (a1 : Int32) (a2 : Nat) (h : AH) (K : Int32 → AH → Prop) : Prop :=
  (isO h a0 0) ∧ wX9_pass a0 a1 h (fun r2 h1 => (isA h1 a2 1) ∧ (nZ ≤ a2) ∧ (vp_in 0 (ln h1 a2)) ∧ ∀ h6, h6 = uL h1 a2 0.toNatClampNeg r2.toInt64 → K 0 h6) T
def wL_blockLength (a0 : Nat) (a1 : Int32) (a2 : Nat) (h : AH) (K : Int32 → AH → Prop) : Prop :=
  (isO h a0 0) ∧ wX9_blockLength a0 a1 h (fun r2 h1 => (isA h1 a2 1) ∧ (nZ ≤ a2) ∧ (vp_in 0 (ln h1 a2)) ∧ ∀ h6, h6 = uL h1 a2 0.toNatClampNeg r2.toInt64 → K 0 h6) T
def wL_blockState (a0 : Nat) (a1 : Int32) (a2 : Nat) (h : AH) (K : Int32 → AH → Prop) : Prop :=
  (isO h a0 0) ∧ wX9_blockState a0 a1 h (fun r2 h1 => (isA h1 a2 1) ∧ (nZ ≤ a2) ∧ (vp_in 0 (ln h1 a2)) ∧ ∀ h6, h6 = uL h1 a2 0.toNatClampNeg r2.toInt64 → K 0 h6) T
def wL_trainAt (a0 : Nat) (a1 : Int32) (a2 : Nat) (h : AH) (K : Int32 → AH → Prop) : Prop :=
  (isO h a0 0) ∧ wX9_trainAt a0 a1 h (fun r2 h1 => (isA h1 a2 1) ∧ (nZ ≤ a2) ∧ (vp_in 0 (ln h1 a2)) ∧ ∀ h6, h6 = uL h1 a2 0.toNatClampNeg r2.toInt64 → K 0 h6) T
def wL_liesLeft_J15 (K : Int32 → AH → Prop)  (y0 : Nat) (y1 : Int32) (y2 : Int64) (h : AH) : Prop :=
  (isA h y0 1) ∧ (nZ ≤ y0) ∧ (vp_in y1 (ln h y0)) ∧ ∀ h7, h7 = uL h y0 y1.toNatClampNeg y2 → K 0 h7
def wL_liesLeft (a0 : Nat) (a1 : Int32) (a2 : Nat) (h : AH) (K : Int32 → AH → Prop) : Prop :=
  (isO h a0 0) ∧ wX9_liesLeft a0 a1 h (fun r2 h1 => ((r2 = 0 → (wL_liesLeft_J15 K a2 0 0 h1)) ∧ (¬ r2 = 0 → (wL_liesLeft_J15 K a2 0 1 h1)))) T
def wL_lockedBy (a0 : Nat) (a1 : Int32) (a2 : Nat) (h : AH) (K : Int32 → AH → Prop) : Prop :=
  (isO h a0 0) ∧ wX9_lockedBy a0 a1 h (fun r2 h1 => (isA h1 a2 1) ∧ (nZ ≤ a2) ∧ (vp_in 0 (ln h1 a2)) ∧ ∀ h6, h6 = uL h1 a2 0.toNatClampNeg r2.toInt64 → K 0 h6) T
def wL_routeLength (a0 : Nat) (a1 : Int32) (a2 : Int32) (a3 : Nat) (h : AH) (K : Int32 → AH → Prop) : Prop :=
  (isO h a0 0) ∧ wX9_routeLength a0 a1 a2 h (fun r2 h1 => (isA h1 a3 1) ∧ (nZ ≤ a3) ∧ (vp_in 0 (ln h1 a3)) ∧ ∀ h6, h6 = uL h1 a3 0.toNatClampNeg r2.toInt64 → K 0 h6) T
def wL_routeLengthByPaths (a0 : Nat) (a1 : Int32) (a2 : Int32) (a3 : Nat) (h : AH) (K : Int32 → AH → Prop) : Prop :=
  (isO h a0 0) ∧ wX9_routeLengthByPaths a0 a1 a2 h (fun r2 h1 => (isA h1 a3 1) ∧ (nZ ≤ a3) ∧ (vp_in 0 (ln h1 a3)) ∧ ∀ h6, h6 = uL h1 a3 0.toNatClampNeg r2.toInt64 → K 0 h6) T
def wL_routeBlock (a0 : Nat) (a1 : Int32) (a2 : Int32) (a3 : Int32) (a4 : Nat) (h : AH) (K : Int32 → AH → Prop) : Prop :=
  (isO h a0 0) ∧ wX9_routeBlock a0 a1 a2 a3 h (fun r2 h1 => (isA h1 a4 1) ∧ (nZ ≤ a4) ∧ (vp_in 0 (ln h1 a4)) ∧ ∀ h6, h6 = uL h1 a4 0.toNatClampNeg r2.toInt64 → K 0 h6) T
def wL_paths (a0 : Nat) (a1 : Int32) (a2 : Int32) (a3 : Nat) (h : AH) (K : Int32 → AH → Prop) : Prop :=
  (isO h a0 0) ∧ wX9_paths a0 a1 a2 h (fun r2 h1 => (isA h1 a3 1) ∧ (nZ ≤ a3) ∧ (vp_in 0 (ln h1 a3)) ∧ ∀ h6, h6 = uL h1 a3 0.toNatClampNeg r2.toInt64 → K 0 h6) T
def wL_blockOf (a0 : Nat) (a1 : Int32) (a2 : Nat) (h : AH) (K : Int32 → AH → Prop) : Prop :=
  (isO h a0 0) ∧ wX9_blockOf a0 a1 h (fun r2 h1 => (isA h1 a2 1) ∧ (nZ ≤ a2) ∧ (vp_in 0 (ln h1 a2)) ∧ ∀ h6, h6 = uL h1 a2 0.toNatClampNeg r2.toInt64 → K 0 h6) T
def wL_destination (a0 : Nat) (a1 : Int32) (a2 : Nat) (h : AH) (K : Int32 → AH → Prop) : Prop :=
  (isO h a0 0) ∧ wX9_destination a0 a1 h (fun r2 h1 => (isA h1 a2 1) ∧ (nZ ≤ a2) ∧ (vp_in 0 (ln h1 a2)) ∧ ∀ h6, h6 = uL h1 a2 0.toNatClampNeg r2.toInt64 → K 0 h6) T
def wL_hasRoute_J15 (K : Int32 → AH → Prop)  (y0 : Nat) (y1 : Int32) (y2 : Int64) (h : AH) : Prop :=
  (isA h y0 1) ∧ (nZ ≤ y0) ∧ (vp_in y1 (ln h y0)) ∧ ∀ h7, h7 = uL h y0 y1.toNatClampNeg y2 → K 0 h7
def wL_hasRoute (a0 : Nat) (a1 : Int32) (a2 : Nat) (h : AH) (K : Int32 → AH → Prop) : Prop :=
  (isO h a0 0) ∧ wX9_hasRoute a0 a1 h (fun r2 h1 => ((r2 = 0 → (wL_hasRoute_J15 K a2 0 0 h1)) ∧ (¬ r2 = 0 → (wL_hasRoute_J15 K a2 0 1 h1)))) T
def wL_isClear_J15 (K : Int32 → AH → Prop)  (y0 : Nat) (y1 : Int32) (y2 : Int64) (h : AH) : Prop :=
  (isA h y0 1) ∧ (nZ ≤ y0) ∧ (vp_in y1 (ln h y0)) ∧ ∀ h7, h7 = uL h y0 y1.toNatClampNeg y2 → K 0 h7
def wL_isClear (a0 : Nat) (a1 : Int32) (a2 : Nat) (h : AH) (K : Int32 → AH → Prop) : Prop :=
  (isO h a0 0) ∧ wX9_isClear a0 a1 h (fun r2 h1 => ((r2 = 0 → (wL_isClear_J15 K a2 0 0 h1)) ∧ (¬ r2 = 0 → (wL_isClear_J15 K a2 0 1 h1)))) T
def wL_minutesUntilNext (a0 : Nat) (a1 : Int32) (a2 : Nat) (h : AH) (K : Int32 → AH → Prop) : Prop :=
  (isO h a0 0) ∧ wX9_minutesUntilNext a0 a1 h (fun r2 h1 => (isA h1 a2 1) ∧ (nZ ≤ a2) ∧ (vp_in 0 (ln h1 a2)) ∧ ∀ h6, h6 = uL h1 a2 0.toNatClampNeg r2.toInt64 → K 0 h6) T
def wL_minutesUntilArrival (a0 : Nat) (a1 : Int32) (a2 : Nat) (h : AH) (K : Int32 → AH → Prop) : Prop :=
  (isO h a0 0) ∧ wX9_minutesUntilArrival a0 a1 h (fun r2 h1 => (isA h1 a2 1) ∧ (nZ ≤ a2) ∧ (vp_in 0 (ln h1 a2)) ∧ ∀ h6, h6 = uL h1 a2 0.toNatClampNeg r2.toInt64 → K 0 h6) T
def wL_minutesUntilArrivalByPassing (a0 : Nat) (a1 : Int32) (a2 : Nat) (h : AH) (K : Int32 → AH → Prop) : Prop :=
  (isO h a0 0) ∧ wX9_minutesUntilArrivalByPassing a0 a1 h (fun r2 h1 => (isA h1 a2 1) ∧ (nZ ≤ a2) ∧ (vp_in 0 (ln h1 a2)) ∧ ∀ h6, h6 = uL h1 a2 0.toNatClampNeg r2.toInt64 → K 0 h6) T
def wL_delay (a0 : Nat) (a1 : Int32) (a2 : Nat) (h : AH) (K : Int32 → AH → Prop) : Prop :=
  (isO h a0 0) ∧ wX9_delay a0 a1 h (fun r2 h1 => (isA h1 a2 1) ∧ (nZ ≤ a2) ∧ (vp_in 0 (ln h1 a2)) ∧ ∀ h6, h6 = uL h1 a2 0.toNatClampNeg r2.toInt64 → K 0 h6) T
def wL_queued (a0 : Nat) (a1 : Int32) (a2 : Nat) (h : AH) (K : Int32 → AH → Prop) : Prop :=
  (isO h a0 0) ∧ wX9_queued a0 a1 h (fun r2 h1 => (isA h1 a2 1) ∧ (nZ ≤ a2) ∧ (vp_in 0 (ln h1 a2)) ∧ ∀ h6, h6 = uL h1 a2 0.toNatClampNeg r2.toInt64 → K 0 h6) T
def wL_waitsFor_J16 (K : Int32 → AH → Prop)  (y0 : Nat) (y1 : Int32) (y2 : Int64) (h : AH) : Prop :=
  (isA h y0 1) ∧ (nZ ≤ y0) ∧ (vp_in y1 (ln h y0)) ∧ ∀ h7, h7 = uL h y0 y1.toNatClampNeg y2 → K 0 h7
def wL_waitsFor (a0 : Nat) (a1 : Int32) (a2 : Int32) (a3 : Nat) (h : AH) (K : Int32 → AH → Prop) : Prop :=
  (isO h a0 0) ∧ wX9_waitsFor a0 a1 a2 h (fun r2 h1 => ((r2 = 0 → (wL_waitsFor_J16 K a3 0 0 h1)) ∧ (¬ r2 = 0 → (wL_waitsFor_J16 K a3 0 1 h1)))) T
def wL_conflict_J16 (K : Int32 → AH → Prop)  (y0 : Nat) (y1 : Int32) (y2 : Int64) (h : AH) : Prop :=
  (isA h y0 1) ∧ (nZ ≤ y0) ∧ (vp_in y1 (ln h y0)) ∧ ∀ h7, h7 = uL h y0 y1.toNatClampNeg y2 → K 0 h7
def wL_conflict (a0 : Nat) (a1 : Int32) (a2 : Int32) (a3 : Nat) (h : AH) (K : Int32 → AH → Prop) : Prop :=
  (isO h a0 0) ∧ wX9_conflict a0 a1 a2 h (fun r2 h1 => ((r2 = 0 → (wL_conflict_J16 K a3 0 0 h1)) ∧ (¬ r2 = 0 → (wL_conflict_J16 K a3 0 1 h1)))) T
def wL_refusalReason (a0 : Nat) (a1 : Nat) (h : AH) (K : Int32 → AH → Prop) : Prop :=
  (isO h a0 0) ∧ wX9_refusalReason a0 h (fun r2 h1 => (isA h1 a1 1) ∧ (nZ ≤ a1) ∧ (vp_in 0 (ln h1 a1)) ∧ ∀ h6, h6 = uL h1 a1 0.toNatClampNeg r2.toInt64 → K 0 h6) T
def wL_refusalBlock (a0 : Nat) (a1 : Nat) (h : AH) (K : Int32 → AH → Prop) : Prop :=
  (isO h a0 0) ∧ wX9_refusalBlock a0 h (fun r2 h1 => (isA h1 a1 1) ∧ (nZ ≤ a1) ∧ (vp_in 0 (ln h1 a1)) ∧ ∀ h6, h6 = uL h1 a1 0.toNatClampNeg r2.toInt64 → K 0 h6) T
def wL_meanDelay (a0 : Nat) (a1 : Nat) (h : AH) (K : Int32 → AH → Prop) : Prop :=
  (isO h a0 0) ∧ wX9_meanDelay a0 h (fun r2 h1 => (isA h1 a1 2) ∧ (nZ ≤ a1) ∧ (vp_in 0 (ln h1 a1)) ∧ ∀ h6, h6 = uL h1 a1 0.toNatClampNeg r2.toInt64 → K 0 h6) T
def wL_usedShare (a0 : Nat) (a1 : Nat) (h : AH) (K : Int32 → AH → Prop) : Prop :=
  (isO h a0 0) ∧ wX9_usedShare a0 h (fun r2 h1 => (vf_n64 (FP.f2d r2)) ∧ (isA h1 a1 2) ∧ (nZ ≤ a1) ∧ (vp_in 0 (ln h1 a1)) ∧ ∀ h7, h7 = uL h1 a1 0.toNatClampNeg ((FP.f2d r2).toInt64) → K 0 h7) T
def wL_writeTrain (a0 : Nat) (a1 : Int32) (a2 : Nat) (h : AH) (K : Int32 → AH → Prop) : Prop :=
  (isO h a0 0) ∧ wX9_writeTrain a0 a1 h (fun r2 h1 => (isA h1 a2 1) ∧ (nZ ≤ a2) ∧ (vp_in 0 (ln h1 a2)) ∧ ∀ h6, h6 = uL h1 a2 0.toNatClampNeg r2.toInt64 → K 0 h6) T
def wL_charAt (a0 : Nat) (a1 : Int32) (a2 : Nat) (h : AH) (K : Int32 → AH → Prop) : Prop :=
  (isO h a0 0) ∧ wX9_charAt a0 a1 h (fun r2 h1 => (isA h1 a2 1) ∧ (nZ ≤ a2) ∧ (vp_in 0 (ln h1 a2)) ∧ ∀ h6, h6 = uL h1 a2 0.toNatClampNeg r2.toInt64 → K 0 h6) T
def wL_type (a0 : Nat) (a1 : Int32) (a2 : Nat) (h : AH) (K : Int32 → AH → Prop) : Prop :=
  (isO h a0 0) ∧ wX9_type a0 a1 h (fun r2 h1 => (isA h1 a2 1) ∧ (nZ ≤ a2) ∧ (vp_in 0 (ln h1 a2)) ∧ ∀ h6, h6 = uL h1 a2 0.toNatClampNeg r2.toInt64 → K 0 h6) T
def wL_run (a0 : Nat) (a1 : Nat) (h : AH) (K : Int32 → AH → Prop) : Prop :=
  (isO h a0 0) ∧ wX9_run a0 h (fun r2 h1 => (isA h1 a1 1) ∧ (nZ ≤ a1) ∧ (vp_in 0 (ln h1 a1)) ∧ ∀ h6, h6 = uL h1 a1 0.toNatClampNeg r2.toInt64 → K 0 h6) T
def wL_errorPosition (a0 : Nat) (a1 : Nat) (h : AH) (K : Int32 → AH → Prop) : Prop :=
  (isO h a0 0) ∧ wX9_errorPosition a0 h (fun r2 h1 => (isA h1 a1 1) ∧ (nZ ≤ a1) ∧ (vp_in 0 (ln h1 a1)) ∧ ∀ h6, h6 = uL h1 a1 0.toNatClampNeg r2.toInt64 → K 0 h6) T
def wL_failedCommand (a0 : Nat) (a1 : Nat) (h : AH) (K : Int32 → AH → Prop) : Prop :=
  (isO h a0 0) ∧ wX9_failedCommand a0 h (fun r2 h1 => (isA h1 a1 1) ∧ (nZ ≤ a1) ∧ (vp_in 0 (ln h1 a1)) ∧ ∀ h6, h6 = uL h1 a1 0.toNatClampNeg r2.toInt64 → K 0 h6) T
def wL_undo (a0 : Nat) (a1 : Nat) (h : AH) (K : Int32 → AH → Prop) : Prop :=
  (isO h a0 0) ∧ wX9_undo a0 h (fun r2 h1 => (isA h1 a1 1) ∧ (nZ ≤ a1) ∧ (vp_in 0 (ln h1 a1)) ∧ ∀ h6, h6 = uL h1 a1 0.toNatClampNeg r2.toInt64 → K 0 h6) T
def wL_restore (a0 : Nat) (a1 : Nat) (h : AH) (K : Int32 → AH → Prop) : Prop :=
  (isO h a0 0) ∧ wX9_restore a0 h (fun r2 h1 => (isA h1 a1 1) ∧ (nZ ≤ a1) ∧ (vp_in 0 (ln h1 a1)) ∧ ∀ h6, h6 = uL h1 a1 0.toNatClampNeg r2.toInt64 → K 0 h6) T
