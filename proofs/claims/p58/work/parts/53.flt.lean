/-! FLOATING POINT: mean delay, used share -/
section FL
/-- the datum of a double's bits -/
def v64 (a : UInt64) : FP.Core.Datum := FP.Core.decode FP.Core.b64 a.toNat
theorem n64_of {r : UInt64} (h : v64 r ≠ .nan) : vf_n64 r := by
  unfold vf_n64
  rw [UInt64.le_iff_toNat_le, UInt64.toNat_and]
  show r.toNat &&& 9223372036854775807 ≤ 9218868437227405312
  rw [show (9223372036854775807 : Nat) = 2 ^ 63 - 1 by decide, Nat.and_two_pow_sub_one_eq_mod]
  refine Nat.le_of_not_lt (fun hlt => h ?_)
  unfold v64 FP.Core.decode
  have e1 : FP.Core.fieldE FP.Core.b64 r.toNat = FP.Core.b64.exps - 1 := by
    show r.toNat / 4503599627370496 % 2048 = 2047
    omega
  have e2 : FP.Core.fieldT FP.Core.b64 r.toNat ≠ 0 := by
    show r.toNat % 4503599627370496 ≠ 0
    omega
  rw [if_pos e1, if_neg e2]
theorem dec_nn {n : Nat} (h : n / 4503599627370496 % 2048 = 2047 → n % 4503599627370496 = 0) (hn : n < 2 ^ 64) : v64 (UInt64.ofNat n) ≠ .nan := by
  unfold v64
  rw [UInt64.toNat_ofNat_of_lt' (by simpa using hn)]
  unfold FP.Core.decode
  by_cases e1 : FP.Core.fieldE FP.Core.b64 n = FP.Core.b64.exps - 1
  · have e2 : FP.Core.fieldT FP.Core.b64 n = 0 := h e1
    rw [if_pos e1, if_pos e2]
    intro z; cases z
  · rw [if_neg e1]
    split
    · intro z; cases z
    · intro z; cases z
theorem bnd_nn (s : Bool) (c : Nat) (q : Int) (hc : c < 9007199254740992) (hq : -1074 ≤ q) : v64 (UInt64.ofNat (FP.Core.encode FP.Core.b64 (FP.Core.bound FP.Core.b64 s c q))) ≠ .nan := by
  unfold FP.Core.bound
  have hs : s.toNat ≤ 1 := by cases s <;> decide
  by_cases e : q ≤ FP.Core.b64.qmax
  · have e' : q ≤ 971 := e
    rw [if_pos e]
    unfold FP.Core.encode
    simp only
    by_cases e2 : c < FP.Core.b64.tails
    · have e3 : c < 4503599627370496 := e2
      rw [if_pos e2]
      show v64 (UInt64.ofNat ((s.toNat * 2048 + 0) * 4503599627370496 + c)) ≠ .nan
      exact dec_nn (by omega) (by omega)
    · have e3 : ¬ c < 4503599627370496 := e2
      rw [if_neg e2]
      show v64 (UInt64.ofNat ((s.toNat * 2048 + ((q - -1074).toNat + 1)) * 4503599627370496 + (c - 4503599627370496))) ≠ .nan
      have e4 : (q - -1074).toNat ≤ 2045 := by omega
      exact dec_nn (by omega) (by omega)
  · rw [if_neg e]
    show v64 (UInt64.ofNat ((s.toNat * 2048 + 2047) * 4503599627370496 + 0)) ≠ .nan
    exact dec_nn (by omega) (by omega)
theorem rr_nn (s : Bool) (a b : Nat) (e : Int) : v64 (UInt64.ofNat (FP.Core.encode FP.Core.b64 (FP.Core.roundRatio FP.Core.b64 s a b e))) ≠ .nan := by
  have hq : -1074 ≤ FP.Core.quantum FP.Core.b64 a b e := by
    show -1074 ≤ max FP.Core.b64.qmin _
    exact Int.le_max_left _ _
  have hs : s.toNat ≤ 1 := by cases s <;> decide
  unfold FP.Core.roundRatio
  split
  · show v64 (UInt64.ofNat ((s.toNat * 2048 + 0) * 4503599627370496 + 0)) ≠ .nan
    exact dec_nn (by omega) (by omega)
  · unfold FP.Core.roundAt FP.Core.settle
    split
    · rename_i hc
      exact bnd_nn s _ _ hc hq
    · exact bnd_nn s _ _ (by decide) (by omega)
theorem i2d_nn (x : Int32) : v64 (FP.i2d x) ≠ .nan := rr_nn _ _ _ _
def fnz (d : FP.Core.Datum) : Bool := match d with
  | .fin _ d _ => d != 0
  | _ => false
set_option maxRecDepth 1000000 in
theorem i2d_a : (List.range 9000).all (fun b => fnz (v64 (FP.i2d (nI (b + 1))))) = true := by decide +kernel
theorem i2d_b (b : Nat) (hb : b < 9000) : fnz (v64 (FP.i2d (nI (b + 1)))) = true := List.all_eq_true.mp i2d_a b (List.mem_range.mpr hb)
theorem dd_nn {a b : Nat} (hb : b < 9000) (h0 : 0 < b) : v64 (FP.ddiv (FP.i2d (nI a)) (FP.i2d (nI b))) ≠ .nan := by
  have h1 := i2d_nn (nI a)
  have h2 := i2d_b (b - 1) (by omega)
  rw [show b - 1 + 1 = b by omega] at h2
  show v64 (UInt64.ofNat (FP.Core.encode FP.Core.b64 (FP.Core.quotient FP.Core.b64 (v64 (FP.i2d (nI a))) (v64 (FP.i2d (nI b)))))) ≠ .nan
  cases e2 : v64 (FP.i2d (nI b)) with
  | nan => rw [e2] at h2; cases h2
  | inf s => rw [e2] at h2; cases h2
  | fin t d r =>
    rw [e2] at h2
    have hd : ¬ d = 0 := fun z => by subst z; cases h2
    cases e1 : v64 (FP.i2d (nI a)) with
    | nan => exact absurd e1 h1
    | inf s =>
      have hs : (s != t).toNat ≤ 1 := by cases s <;> cases t <;> decide
      show v64 (UInt64.ofNat (((s != t).toNat * 2048 + 2047) * 4503599627370496 + 0)) ≠ .nan
      exact dec_nn (by omega) (by omega)
    | fin s c q =>
      unfold FP.Core.quotient
      simp only
      rw [if_neg hd]
      exact rr_nn _ _ _ _
theorem l2d_N {d : Nat} (h : d < 2 ^ 31) : FP.l2d (lN d) = FP.i2d (nI d) := by
  show UInt64.ofNat (FP.Core.fromInt FP.Core.b64 (lN d).toInt) = UInt64.ofNat (FP.Core.fromInt FP.Core.b64 (nI d).toInt)
  rw [lN_toInt h, nI_toInt h]
theorem cmp_self {r : UInt64} (h : v64 r ≠ .nan) : Op.cmpValue (FP.dcmp r r) .l = 0 := by
  have : FP.dcmp r r = some .eq := by
    show FP.Core.order (v64 r) (v64 r) = some .eq
    cases e : v64 r with
    | nan => exact absurd e h
    | inf s => simp [FP.Core.order]
    | fin s c q => simp [FP.Core.order]
  rw [this]
  rfl
set_option maxRecDepth 100000 in
theorem ff_ok : ∀ n, n < 13 → ∀ m, m < 12 → (FP.fdiv (FP.i2f (nI n)) (FP.i2f (nI (m + 1))) &&& 0x7fffffff ≤ 0x7f800000) ∧ (FP.f2d (FP.fdiv (FP.i2f (nI n)) (FP.i2f (nI (m + 1)))) &&& 0x7fffffffffffffff ≤ 0x7ff0000000000000) ∧ Op.cmpValue (FP.dcmp (FP.f2d (FP.fdiv (FP.i2f (nI n)) (FP.i2f (nI (m + 1))))) (FP.f2d (FP.fdiv (FP.i2f (nI n)) (FP.i2f (nI (m + 1)))))) .l = 0 := by decide +kernel
variable {h g : AH} {p w : Nat} {X : BG}
theorem c9_meanDelay (r : RBc h X) (bn : BN (bA X)) {K : UInt64 → AH → Prop} {T : String → AH → Prop} (k : aC (bA X) ≠ 0 → K (FP.ddiv (FP.i2d (nI (aD (bA X)))) (FP.i2d (nI (aC (bA X))))) h) (kT : aC (bA X) = 0 → T "java/lang/ArithmeticException" h) : wX9_meanDelay 64 h K T := by
  obtain ⟨p, r⟩ := r
  have s := r.2.2.1
  obtain ⟨b1, b2, b3⟩ := bn
  unfold wX9_meanDelay
  rw [r.1.f0, s.2.2.2.2.1, s.2.2.2.2.2.2.2.1, l2d_N (by omega), nI_z (by omega)]
  exact ⟨r.1.o, s.1.o, fun z => ⟨n64_of (dd_nn (by omega) (by omega)), k z⟩, kT⟩
theorem c9_usedShare (r : RBc h X) (i : IP (bA X)) {K : UInt32 → AH → Prop} {T : String → AH → Prop} (k : gn (aL (bA X)) ≠ 0 → K (FP.fdiv (FP.i2f (nI (pc (hbt (aT (bA X)))))) (FP.i2f (nI (gn (aL (bA X)))))) h) (kT : gn (aL (bA X)) = 0 → T "java/lang/ArithmeticException" h) : wX9_usedShare 64 h K T := by
  obtain ⟨p, r⟩ := r
  have s := r.2.2.1
  have h12 := r.n12
  have hT : hbt (aT (bA X)) < 2 ^ 12 := hbt_lt _ fun t ht => ((i.it.2 t ht).b12 s.2.1.1.2.2).2
  unfold wX9_usedShare
  rw [r.1.f0, s.1.m0, s.2.1.1.2.1.1, nI_z (by omega)]
  refine ⟨r.1.o, s.1.o, s.1.lg.o, fun z => c_held s i.it ?_, kT⟩
  rw [w_bitCount (by omega)]
  rw [r.1.f0, s.1.m0, s.2.1.1.2.1.1]
  obtain ⟨m, hm⟩ : ∃ m, gn (aL (bA X)) = m + 1 := ⟨gn (aL (bA X)) - 1, by omega⟩
  have := ff_ok (pc (hbt (aT (bA X)))) (by have := pc_le (hbt (aT (bA X))); omega) m (by omega)
  rw [← hm] at this
  exact ⟨r.1.o, s.1.o, s.1.lg.o, this.1, k z⟩
theorem c9_refusalReason (r : RBc h X) (hy : bY X < 128) {K : Int32 → AH → Prop} {T : String → AH → Prop} (k : kq (if bY X = 0 then (1, nI 0) else (0, nI (bY X))) [xS] K T h) : wX9_refusalReason 64 h K T := by
  obtain ⟨p, r⟩ := r
  unfold wX9_refusalReason
  rw [r.2.2.2.2.2.2.2.1, nI_z (by omega)]
  refine ⟨r.1.o, fun z => ?_, fun z => ?_⟩
  · rw [if_neg z] at k
    exact ⟨(ch_ok _ hy).1, k.1 rfl⟩
  · rw [if_pos z] at k
    exact k.2 0 rfl
def qO (x : Option Nat) : QA := match x with
  | none => (1, nI 0)
  | some b => (0, nI b)
theorem kq_O {x : Option Nat} (hx : ∀ b, x = some b → b < 2 ^ 31) {K : Int32 → AH → Prop} {T : String → AH → Prop} (k : kq (qO x) [xS] K T h) : (¬ oI x = -1 → K (oI x) h) ∧ (oI x = -1 → T xS h) := by
  unfold qO at k
  cases x with
  | none => exact ⟨fun z => absurd rfl z, fun _ => k.2 0 rfl⟩
  | some b => exact ⟨fun _ => k.1 rfl, fun z => absurd z (by rw [oI_some, nI_nem (hx b rfl)]; exact id)⟩
theorem c9_refusalBlock (r : RBc h X) (hb : ∀ b, bB X = some b → b < 2 ^ 31) {K : Int32 → AH → Prop} {T : String → AH → Prop} (k : kq (qO (bB X)) [xS] K T h) : wX9_refusalBlock 64 h K T := by
  obtain ⟨p, r⟩ := r
  unfold wX9_refusalBlock
  rw [r.2.2.2.2.2.2.2.2.1]
  exact ⟨r.1.o, kq_O hb k⟩
end FL
