/-! NUMBERS AND SETS AS BITS -/
def oI (x : Option Nat) : Int32 := match x with
  | none => -1
  | some k => nI k
theorem oI_none : oI none = -1 := rfl
theorem oI_some (k : Nat) : oI (some k) = nI k := rfl
theorem nI_nem {k : Nat} (h : k < 2 ^ 31) : (nI k = -1) = False := by
  refine eq_false fun e => ?_
  have := congrArg Int32.toInt e
  rw [nI_toInt h] at this
  have h2 : (-1 : Int32).toInt = -1 := by decide
  rw [h2] at this
  omega
theorem m_ne {k : Nat} (h : k < 2 ^ 31) : ((-1 : Int32) = nI k) = False := by rw [show ((-1 : Int32) = nI k) = (nI k = -1) from propext eq_comm, nI_nem h]
theorem m_lt (k : Nat) (h : k < 2 ^ 31) : (-1 : Int32) < nI k := by
  rw [Int32.lt_iff_toInt_lt, nI_toInt h]
  have h2 : (-1 : Int32).toInt = -1 := by decide
  omega
theorem oI_eqm {x : Option Nat} (h : ∀ k, x = some k → k < 2 ^ 31) : (oI x = -1) = (x = none) := by
  cases x with
  | none => simp [oI]
  | some k => rw [oI_some, nI_nem (h k rfl)]; simp
theorem oI_inj {x y : Option Nat} (hx : ∀ k, x = some k → k < 2 ^ 31) (hy : ∀ k, y = some k → k < 2 ^ 31) : (oI x = oI y) = (x = y) := by
  cases x with
  | none =>
    rw [oI_none, show ((-1 : Int32) = oI y) = (oI y = -1) from propext eq_comm, oI_eqm hy]
    exact propext eq_comm
  | some k =>
    cases y with
    | none => rw [oI_none, oI_some, nI_nem (hx k rfl)]; simp
    | some j => rw [oI_some, oI_some, nI_eq (hx k rfl) (hy j rfl)]; simp
theorem n_or (a b : Nat) : nI a ||| nI b = nI (a ||| b) := by
  apply Int32.toBitVec_inj.mp
  rw [Int32.toBitVec_or]
  show BitVec.ofNat 32 a ||| BitVec.ofNat 32 b = BitVec.ofNat 32 (a ||| b)
  apply BitVec.eq_of_toNat_eq
  simp [Nat.or_mod_two_pow]
theorem n_and (a b : Nat) : nI a &&& nI b = nI (a &&& b) := by
  apply Int32.toBitVec_inj.mp
  rw [Int32.toBitVec_and]
  show BitVec.ofNat 32 a &&& BitVec.ofNat 32 b = BitVec.ofNat 32 (a &&& b)
  apply BitVec.eq_of_toNat_eq
  simp [Nat.and_mod_two_pow]
theorem n_xor (a b : Nat) : nI a ^^^ nI b = nI (a ^^^ b) := by
  apply Int32.toBitVec_inj.mp
  rw [Int32.toBitVec_xor]
  show BitVec.ofNat 32 a ^^^ BitVec.ofNat 32 b = BitVec.ofNat 32 (a ^^^ b)
  apply BitVec.eq_of_toNat_eq
  simp [Nat.xor_mod_two_pow]
theorem n_shl : ∀ b, b < 31 → nI 1 <<< (nI b &&& nI 31) = nI (2 ^ b) := by decide +kernel
theorem n_m1 : (-1 : Int32) = nI 4294967295 := by decide
/-- a set without a member -/
def clr (m b : Nat) : Nat := m &&& (2 ^ b ^^^ 4294967295)
theorem n_clr (m b : Nat) (hb : b < 31) : nI m &&& ((nI 1 <<< (nI b &&& nI 31)) ^^^ (-1)) = nI (clr m b) := by
  rw [n_shl b hb, n_m1, n_xor, n_and]
  rfl
theorem clr_le (m b : Nat) : clr m b ≤ m := Nat.and_le_left
theorem clr_bit {m b : Nat} (hm : m < 2 ^ 32) (i : Nat) : (clr m b).testBit i = (m.testBit i && !decide (b = i)) := by
  unfold clr
  rw [Nat.testBit_and, Nat.testBit_xor, Nat.testBit_two_pow, show 4294967295 = 2 ^ 32 - 1 by decide, Nat.testBit_two_pow_sub_one]
  by_cases h : i < 32
  · simp [h]
  · have : m.testBit i = false := Nat.testBit_lt_two_pow (Nat.lt_of_lt_of_le hm (Nat.pow_le_pow_right (by decide) (by omega)))
    rw [this]
    simp
theorem nI_z {m : Nat} (h : m < 2 ^ 31) : (nI m = nI 0) = (m = 0) := by rw [nI_eq h (by decide)]
theorem bit0 (m b : Nat) : m &&& 2 ^ b = 0 ↔ m.testBit b = false := by
  constructor
  · intro h
    have := congrArg (fun x => x.testBit b) h
    simpa [Nat.testBit_and, Nat.testBit_two_pow] using this
  · intro h
    apply Nat.eq_of_testBit_eq
    intro i
    rw [Nat.testBit_and, Nat.testBit_two_pow, Nat.zero_testBit]
    by_cases e : b = i
    · subst e
      simp [h]
    · simp [e]
theorem c_bit {m b : Nat} (hm : m < 2 ^ 31) (hb : b < 31) : ((nI m &&& (nI 1 <<< (nI b &&& nI 31))) = nI 0) = (m.testBit b = false) := by
  rw [n_shl b hb, n_and, nI_z (Nat.lt_of_le_of_lt Nat.and_le_left hm), bit0]
theorem or_lt {a b n : Nat} (ha : a < 2 ^ n) (hb : b < 2 ^ n) : a ||| b < 2 ^ n := Nat.or_lt_two_pow ha hb
theorem tb_or (a b i : Nat) : (a ||| 2 ^ b).testBit i = (a.testBit i || decide (b = i)) := by rw [Nat.testBit_or, Nat.testBit_two_pow]
theorem p2_lt {b n : Nat} (h : b < n) : 2 ^ b < 2 ^ n := Nat.pow_lt_pow_right (by decide) h
/-- the set of a list's members -/
def bts : List Nat → Nat
  | [] => 0
  | b :: l => bts l ||| 2 ^ b
theorem bts_tb (l : List Nat) (i : Nat) : (bts l).testBit i = decide (i ∈ l) := by
  induction l with
  | nil => simp [bts]
  | cons b l ih =>
    rw [bts, tb_or, ih]
    by_cases h : b = i
    · subst h; simp
    · have h2 : ¬ i = b := fun z => h z.symm
      simp [h, h2]
theorem bts_lt {l : List Nat} {n : Nat} (h : ∀ b ∈ l, b < n) : bts l < 2 ^ n := by
  induction l with
  | nil => exact Nat.two_pow_pos n
  | cons b l ih => exact or_lt (ih fun x hx => h x (List.mem_cons_of_mem _ hx)) (p2_lt (h b List.mem_cons_self))
theorem and_z (a b : Nat) : a &&& b = 0 ↔ ∀ i, ¬ (a.testBit i = true ∧ b.testBit i = true) := by
  constructor
  · intro h i hi
    have := congrArg (fun x => x.testBit i) h
    simp [hi.1, hi.2] at this
  · intro h
    apply Nat.eq_of_testBit_eq
    intro i
    rw [Nat.testBit_and, Nat.zero_testBit]
    have := h i
    cases ha : a.testBit i <;> cases hb : b.testBit i <;> simp_all
theorem bts_0 (l : List Nat) : bts l = 0 ↔ l = [] := by
  constructor
  · intro h
    cases l with
    | nil => rfl
    | cons b l =>
      have := bts_tb (b :: l) b
      rw [h] at this
      simp at this
  · intro h; subst h; rfl
/-- how many members -/
def pc (m : Nat) : Nat := (List.range 12).countP (fun i => m.testBit i)
theorem pc_le (m : Nat) : pc m ≤ 12 := by
  have := List.countP_le_length (p := fun i => m.testBit i) (l := List.range 12)
  rwa [List.length_range] at this
theorem ix_of (x : Int32) (n : Nat) (hn : n < 2 ^ 31) : (x < nI 0 ∨ nI n ≤ x) ∨ ∃ j : Nat, j < n ∧ x = nI j := by
  rcases pk_ix x hn with h | h | h
  · exact Or.inl (Or.inl h)
  · exact Or.inl (Or.inr h)
  · exact Or.inr h
theorem lt0_f {k : Nat} (h : k < 2 ^ 31) : (nI k < nI 0) = False := eq_false (by rw [nI_ltI h (by decide)]; omega)
theorem ge_nlt {x y : Int32} (h : x ≤ y) : (y < x) = False := eq_false (by rw [Int32.lt_iff_toInt_lt]; rw [Int32.le_iff_toInt_le] at h; omega)
theorem lt_nge {x y : Int32} (h : x < y) : (y ≤ x) = False := eq_false (by rw [Int32.le_iff_toInt_le]; rw [Int32.lt_iff_toInt_lt] at h; omega)
set_option maxRecDepth 100000 in
theorem pc_w : ∀ m, m < 4096 → (let a := nI m; let v1 := a - ((a.toUInt32 >>> ((nI 1).toUInt32 &&& Int32.toUInt32 (nI 31))).toInt32 &&& nI 1431655765); let v3 := (v1 &&& nI 858993459) + ((v1.toUInt32 >>> ((nI 2).toUInt32 &&& Int32.toUInt32 (nI 31))).toInt32 &&& nI 858993459); let v5 := (v3 + (v3.toUInt32 >>> ((nI 4).toUInt32 &&& Int32.toUInt32 (nI 31))).toInt32) &&& nI 252645135; let v7 := v5 + (v5.toUInt32 >>> ((nI 8).toUInt32 &&& Int32.toUInt32 (nI 31))).toInt32; let v9 := v7 + (v7.toUInt32 >>> ((nI 16).toUInt32 &&& Int32.toUInt32 (nI 31))).toInt32; v9 &&& nI 63) = nI (pc m) := by decide +kernel
theorem w_bitCount {m : Nat} (hm : m < 4096) {h : AH} {K : Int32 → AH → Prop} : wJ6_bitCount_0f7a4 (nI m) h K ↔ K (nI (pc m)) h := by
  have h9 := pc_w m hm
  unfold wJ6_bitCount_0f7a4
  simp only [forall_eq]
  rw [← h9]
theorem nI_of1 {x : Int32} (h : ¬ x < nI 1) : ∃ j : Nat, j < 2 ^ 31 ∧ 1 ≤ j ∧ x = nI j := by
  obtain ⟨j, hj, rfl⟩ := nI_of (x := x) (fun z => h (by
    rw [Int32.lt_iff_toInt_lt] at z ⊢
    have e1 : (0 : Int32).toInt = 0 := by decide
    have e2 : (nI 1).toInt = 1 := by decide
    omega))
  rw [nI_ltI hj (by decide)] at h
  exact ⟨j, hj, by omega, rfl⟩
