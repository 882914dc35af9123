/-! PROGRAMS: the texts' forms, what is read of a text -/
/-- the commands' forms; 35 stands for a digit, 42 for a number -/
def frm (k : Nat) : List Nat := match k with
  | 0 => [98, 108, 111, 99, 107, 32, 35]
  | 1 => [112, 111, 105, 110, 116, 32, 42, 62, 42, 44, 42]
  | 2 => [108, 105, 110, 107, 32, 42, 62, 42]
  | 3 => [116, 114, 97, 105, 110, 32, 42, 62, 42]
  | 4 => [115, 101, 116, 32, 42]
  | 5 => [102, 114, 101, 101, 32, 42]
  | 6 => [115, 104, 117, 116, 32, 42]
  | 7 => [111, 112, 101, 110, 32, 42]
  | 8 => [116, 104, 114, 111, 119, 32, 35]
  | 9 => [119, 97, 105, 116]
  | _ => [119, 97, 105, 116, 32, 42]
def isDg (T : List Nat) (i : Nat) : Bool := match T[i]? with
  | none => false
  | some c => decide (48 ≤ c) && decide (c ≤ 57)
/-- how many digits stand from i on, at most m -/
def dgc (T : List Nat) : Nat → Nat → Nat
  | _, 0 => 0
  | i, m + 1 => if isDg T i = true then 1 + dgc T (i + 1) m else 0
def vl (T : List Nat) : Nat → Nat → Nat → Nat
  | _, 0, a => a
  | i, m + 1, a => vl T (i + 1) m (a * 10 + (T.getD i 0 - 48))
/-- how much of the text a sign of a form takes -/
def tkn (T : List Nat) (c i : Nat) : Nat := if c = 35 then dgc T i 1 else if c = 42 then dgc T i 3 else if T[i]? = some c then 1 else 0
def nts (T : List Nat) (c i : Nat) : List Nat := if c = 35 ∨ c = 42 then [vl T i (tkn T c i) 0] else []
/-- a form at a place: how far it reaches, whether it fits, its numbers -/
def mtF (T : List Nat) : List Nat → Nat → Nat × Bool × List Nat
  | [], i => (i, true, [])
  | c :: F, i => if tkn T c i = 0 then (i, false, nts T c i) else ((mtF T F (i + tkn T c i)).1, (mtF T F (i + tkn T c i)).2.1, nts T c i ++ (mtF T F (i + tkn T c i)).2.2)
/-- which form is read -/
def sel (T : List Nat) (s : Nat) : Option Nat := match T[s]? with
  | some 98 => some 0
  | some 112 => some 1
  | some 108 => some 2
  | some 116 => if T[s + 1]? = some 104 then some 8 else some 3
  | some 115 => if T[s + 1]? = some 104 then some 6 else some 4
  | some 102 => some 5
  | some 111 => some 7
  | some 119 => some 10
  | _ => none
/-- a command: its form and its numbers -/
abbrev CM : Type := Nat × List Nat
/-- one command is read: how far, and which -/
def rd1 (T : List Nat) (s : Nat) : Nat × Option CM := match sel T s with
  | none => (s, none)
  | some k => if (mtF T (frm k) s).2.1 = true then ((mtF T (frm k) s).1, some (k, (mtF T (frm k) s).2.2)) else if k = 10 ∧ (mtF T (frm 9) s).2.1 = true ∧ T[s + 4]? ≠ some 32 then (s + 4, some (9, [])) else ((mtF T (frm k) s).1, none)
/-- a program is read -/
def prs (T : List Nat) : Nat → Nat → Nat × Option (List CM)
  | 0, s => (s, none)
  | f + 1, s => match rd1 T s with
    | (r, none) => (r, none)
    | (e, some c) => if e = T.length then (e, some [c]) else if T[e]? = some 59 then (match prs T f (e + 1) with
      | (r, none) => (r, none)
      | (r, some l) => (r, some (c :: l))) else (e, none)
section PS
variable {T : List Nat} {s : Nat}
theorem mt_ne {c i : Nat} {F : List Nat} (h1 : c ≠ 35) (h2 : c ≠ 42) (h : T[i]? ≠ some c) : mtF T (c :: F) i = (i, false, []) := by
  have e1 : tkn T c i = 0 := by unfold tkn; rw [if_neg h1, if_neg h2, if_neg h]
  have e2 : nts T c i = [] := by unfold nts; rw [if_neg (fun z => z.elim h1 h2)]
  rw [mtF, e1, e2, if_pos rfl]
theorem mt_eq {c i : Nat} {F : List Nat} (h1 : c ≠ 35) (h2 : c ≠ 42) (h : T[i]? = some c) : mtF T (c :: F) i = mtF T F (i + 1) := by
  have e1 : tkn T c i = 1 := by unfold tkn; rw [if_neg h1, if_neg h2, if_pos h]
  have e2 : nts T c i = [] := by unfold nts; rw [if_neg (fun z => z.elim h1 h2)]
  rw [mtF, e1, e2, if_neg (by decide)]
  rfl
theorem mt_ge : ∀ (F : List Nat) (i : Nat), i ≤ (mtF T F i).1 := by
  intro F
  induction F with
  | nil => intro i; exact Nat.le_refl _
  | cons c F ih =>
    intro i
    rw [mtF]
    split
    · exact Nat.le_refl _
    · exact Nat.le_trans (Nat.le_add_right _ _) (ih _)
theorem dgc_le : ∀ (m i : Nat), dgc T i m ≤ m := by
  intro m
  induction m with
  | zero => intro i; exact Nat.le_refl _
  | succ m ih =>
    intro i
    rw [dgc]
    split
    · have := ih (i + 1); omega
    · exact Nat.zero_le _
theorem dg_lt {i : Nat} (h : isDg T i = true) : i < T.length := by
  unfold isDg at h
  cases e : T[i]? with
  | none => rw [e] at h; cases h
  | some c => exact (List.getElem?_eq_some_iff.mp e).1
theorem dgc_in : ∀ (m i : Nat), i ≤ T.length → i + dgc T i m ≤ T.length := by
  intro m
  induction m with
  | zero => intro i h; exact h
  | succ m ih =>
    intro i h
    rw [dgc]
    by_cases e : isDg T i = true
    · rw [if_pos e]
      have := ih (i + 1) (dg_lt e)
      omega
    · rw [if_neg e]; exact h
theorem tkn_in {c i : Nat} (h : i ≤ T.length) : i + tkn T c i ≤ T.length ∧ tkn T c i ≤ 3 := by
  unfold tkn
  split
  · exact ⟨dgc_in 1 i h, Nat.le_trans (dgc_le 1 i) (by decide)⟩
  · split
    · exact ⟨dgc_in 3 i h, dgc_le 3 i⟩
    · split
      · rename_i z
        exact ⟨(List.getElem?_eq_some_iff.mp z).1, by decide⟩
      · exact ⟨h, by decide⟩
theorem mt_in : ∀ (F : List Nat) (i : Nat), i ≤ T.length → (mtF T F i).1 ≤ T.length := by
  intro F
  induction F with
  | nil => intro i h; exact h
  | cons c F ih =>
    intro i h
    rw [mtF]
    split
    · exact h
    · exact ih _ (tkn_in h).1
theorem mt_ok : ∀ (F : List Nat) (i : Nat), (mtF T F i).2.1 = true → i + F.length ≤ (mtF T F i).1 := by
  intro F
  induction F with
  | nil => intro i _; exact Nat.le_refl _
  | cons c F ih =>
    intro i h
    rw [mtF] at h ⊢
    by_cases e : tkn T c i = 0
    · rw [if_pos e] at h; cases h
    · rw [if_neg e] at h ⊢
      have := ih (i + tkn T c i) h
      simp only [List.length_cons]
      have h2 : i + tkn T c i + F.length ≤ (mtF T F (i + tkn T c i)).1 := this
      omega
theorem vl_lt : ∀ (m i a : Nat), (∀ j, j < m → isDg T (i + j) = true) → vl T i m a < (a + 1) * 10 ^ m := by
  intro m
  induction m with
  | zero => intro i a _; simp [vl]
  | succ m ih =>
    intro i a h
    rw [vl]
    have h0 := h 0 (Nat.succ_pos m)
    rw [Nat.add_zero] at h0
    have h1 := ih (i + 1) (a * 10 + (T.getD i 0 - 48)) (fun j hj => by
      have := h (j + 1) (by omega)
      rw [show i + (j + 1) = i + 1 + j by omega] at this
      exact this)
    have hd : T.getD i 0 - 48 ≤ 9 := by
      unfold isDg at h0
      rw [List.getD_eq_getElem?_getD]
      cases e : T[i]? with
      | none => rw [e] at h0; cases h0
      | some c =>
        rw [e] at h0
        simp only [Bool.and_eq_true, decide_eq_true_eq] at h0
        simp only [Option.getD_some]
        omega
    refine Nat.lt_of_lt_of_le h1 ?_
    rw [Nat.pow_succ, Nat.mul_comm (10 ^ m) 10, ← Nat.mul_assoc]
    exact Nat.mul_le_mul_right _ (by omega)
theorem dgc_is : ∀ (m i j : Nat), j < dgc T i m → isDg T (i + j) = true := by
  intro m
  induction m with
  | zero => intro i j h; exact absurd h (Nat.not_lt_zero _)
  | succ m ih =>
    intro i j h
    rw [dgc] at h
    by_cases e : isDg T i = true
    · rw [if_pos e] at h
      cases j with
      | zero => exact e
      | succ j =>
        have := ih (i + 1) j (by omega)
        rw [show i + 1 + j = i + (j + 1) by omega] at this
        exact this
    · rw [if_neg e] at h
      exact absurd h (Nat.not_lt_zero _)
theorem vl_1000 {c i : Nat} (hc : c = 35 ∨ c = 42) : vl T i (tkn T c i) 0 < 1000 := by
  unfold tkn
  rcases hc with rfl | rfl
  · rw [if_pos rfl]
    have h1 := dgc_le (T := T) 1 i
    have := vl_lt (dgc T i 1) i 0 (fun j hj => dgc_is 1 i j hj)
    refine Nat.lt_of_lt_of_le this ?_
    rw [Nat.zero_add, Nat.one_mul]
    exact Nat.le_trans (Nat.pow_le_pow_right (by decide) h1) (by decide)
  · rw [if_neg (by decide), if_pos rfl]
    have h1 := dgc_le (T := T) 3 i
    have := vl_lt (dgc T i 3) i 0 (fun j hj => dgc_is 3 i j hj)
    refine Nat.lt_of_lt_of_le this ?_
    rw [Nat.zero_add, Nat.one_mul]
    exact Nat.le_trans (Nat.pow_le_pow_right (by decide) h1) (by decide)
theorem mt_ns : ∀ (F : List Nat) (i : Nat), ∀ v ∈ (mtF T F i).2.2, v < 1000 := by
  intro F
  induction F with
  | nil => intro i v h; exact absurd h List.not_mem_nil
  | cons c F ih =>
    intro i v h
    have h1 : ∀ v ∈ nts T c i, v < 1000 := fun v hv => by
      unfold nts at hv
      split at hv
      · rename_i z
        rw [List.mem_singleton.mp hv]
        exact vl_1000 z
      · exact absurd hv List.not_mem_nil
    rw [mtF] at h
    by_cases e : tkn T c i = 0
    · rw [if_pos e] at h; exact h1 v h
    · rw [if_neg e] at h
      rcases List.mem_append.mp h with h | h
      · exact h1 v h
      · exact ih _ v h
/-- the class tries all forms: how far they reach, the best, the numbers noted -/
def stp (T : List Nat) (s : Nat) : Nat → Nat
  | 0 => s
  | k + 1 => max (stp T s k) (mtF T (frm k) s).1
def bst (T : List Nat) (s : Nat) : Nat → Option (Nat × Nat)
  | 0 => none
  | k + 1 => if (mtF T (frm k) s).2.1 = true then (match bst T s k with
    | none => some ((mtF T (frm k) s).1, k)
    | some (e, j) => if e < (mtF T (frm k) s).1 then some ((mtF T (frm k) s).1, k) else some (e, j)) else bst T s k
/-- numbers noted from place q on -/
def ntw (q : Nat) (ns : List Nat) (row : Nat → Int32) : Nat → Int32 := fun j => if q ≤ j then (match ns[j - q]? with
  | some v => nI v
  | none => row j) else row j
def nrw (T : List Nat) (s : Nat) (row : Nat → Int32) : Nat → Nat → Int32
  | 0 => row
  | k + 1 => ntw 0 (mtF T (frm k) s).2.2 (nrw T s row k)
theorem ntw_0 (q : Nat) (row : Nat → Int32) : ntw q [] row = row := by
  funext j
  unfold ntw
  split <;> rfl
/-- what trying all forms comes to -/
def Fin (T : List Nat) (s : Nat) (row : Nat → Int32) : Prop := stp T s 11 = (rd1 T s).1 ∧ (∀ e k ns, rd1 T s = (e, some (k, ns)) → bst T s 11 = some (e, k) ∧ ∀ q v, ns[q]? = some v → nrw T s row 11 q = nI v) ∧ ((rd1 T s).2 = none → bst T s 11 = none ∨ ∃ k, bst T s 11 = some (s + 4, k) ∧ T[s + 4]? = some 32)
theorem fin_0 (row : Nat → Int32) (h : ∀ k, k < 11 → mtF T (frm k) s = (s, false, [])) (hs : sel T s = none) : Fin T s row := by
  have h0 := h 0 (by decide)
  have h1 := h 1 (by decide)
  have h2 := h 2 (by decide)
  have h3 := h 3 (by decide)
  have h4 := h 4 (by decide)
  have h5 := h 5 (by decide)
  have h6 := h 6 (by decide)
  have h7 := h 7 (by decide)
  have h8 := h 8 (by decide)
  have h9 := h 9 (by decide)
  have h10 := h 10 (by decide)
  have er : rd1 T s = (s, none) := by unfold rd1; rw [hs]
  unfold Fin
  rw [er]
  refine ⟨?_, fun e k ns z => (by cases z), fun _ => Or.inl ?_⟩
  · simp only [stp, h0, h1, h2, h3, h4, h5, h6, h7, h8, h9, h10, Nat.max_self]
  · simp only [bst, h0, h1, h2, h3, h4, h5, h6, h7, h8, h9, h10, Bool.false_eq_true, if_false]
theorem ntw_v {ns : List Nat} {row : Nat → Int32} {q v : Nat} (h : ns[q]? = some v) : ntw 0 ns row q = nI v := by
  unfold ntw
  rw [if_pos (Nat.zero_le _), Nat.sub_zero, h]
theorem rd1_k {k : Nat} (hs : sel T s = some k) (hk : k ≠ 10) : rd1 T s = if (mtF T (frm k) s).2.1 = true then ((mtF T (frm k) s).1, some (k, (mtF T (frm k) s).2.2)) else ((mtF T (frm k) s).1, none) := by
  unfold rd1
  rw [hs]
  simp only
  split
  · rfl
  · rw [if_neg (fun z => hk z.1)]
theorem fin_0' (row : Nat → Int32) (h1 : mtF T (frm 1) s = (s, false, [])) (h2 : mtF T (frm 2) s = (s, false, [])) (h3 : mtF T (frm 3) s = (s, false, [])) (h4 : mtF T (frm 4) s = (s, false, [])) (h5 : mtF T (frm 5) s = (s, false, [])) (h6 : mtF T (frm 6) s = (s, false, [])) (h7 : mtF T (frm 7) s = (s, false, [])) (h8 : mtF T (frm 8) s = (s, false, [])) (h9 : mtF T (frm 9) s = (s, false, [])) (h10 : mtF T (frm 10) s = (s, false, [])) (hs : sel T s = some 0) : Fin T s row := by
  have er := rd1_k hs (by decide)
  have hge := mt_ge (T := T) (frm 0) s
  unfold Fin
  rw [er]
  have e1 : stp T s 11 = (mtF T (frm 0) s).1 := by
    simp only [stp, h1, h2, h3, h4, h5, h6, h7, h8, h9, h10]
    omega
  have e2 : nrw T s row 11 = ntw 0 (mtF T (frm 0) s).2.2 row := by
    simp only [nrw, h1, h2, h3, h4, h5, h6, h7, h8, h9, h10, ntw_0]
  have e3 : bst T s 11 = if (mtF T (frm 0) s).2.1 = true then some ((mtF T (frm 0) s).1, 0) else none := by
    simp only [bst, h1, h2, h3, h4, h5, h6, h7, h8, h9, h10, Bool.false_eq_true, if_false]
  rw [e1, e2, e3]
  by_cases hb : (mtF T (frm 0) s).2.1 = true
  · rw [if_pos hb, if_pos hb]
    refine ⟨rfl, fun e k ns z => ?_, fun z => (by cases z)⟩
    cases z
    exact ⟨rfl, fun q v hv => ntw_v hv⟩
  · rw [if_neg hb, if_neg hb]
    exact ⟨rfl, fun e k ns z => (by cases z), fun _ => Or.inl rfl⟩
theorem fin_1 (row : Nat → Int32) (h0 : mtF T (frm 0) s = (s, false, [])) (h2 : mtF T (frm 2) s = (s, false, [])) (h3 : mtF T (frm 3) s = (s, false, [])) (h4 : mtF T (frm 4) s = (s, false, [])) (h5 : mtF T (frm 5) s = (s, false, [])) (h6 : mtF T (frm 6) s = (s, false, [])) (h7 : mtF T (frm 7) s = (s, false, [])) (h8 : mtF T (frm 8) s = (s, false, [])) (h9 : mtF T (frm 9) s = (s, false, [])) (h10 : mtF T (frm 10) s = (s, false, [])) (hs : sel T s = some 1) : Fin T s row := by
  have er := rd1_k hs (by decide)
  have hge := mt_ge (T := T) (frm 1) s
  unfold Fin
  rw [er]
  have e1 : stp T s 11 = (mtF T (frm 1) s).1 := by
    simp only [stp, h0, h2, h3, h4, h5, h6, h7, h8, h9, h10]
    omega
  have e2 : nrw T s row 11 = ntw 0 (mtF T (frm 1) s).2.2 row := by
    simp only [nrw, h0, h2, h3, h4, h5, h6, h7, h8, h9, h10, ntw_0]
  have e3 : bst T s 11 = if (mtF T (frm 1) s).2.1 = true then some ((mtF T (frm 1) s).1, 1) else none := by
    simp only [bst, h0, h2, h3, h4, h5, h6, h7, h8, h9, h10, Bool.false_eq_true, if_false]
  rw [e1, e2, e3]
  by_cases hb : (mtF T (frm 1) s).2.1 = true
  · rw [if_pos hb, if_pos hb]
    refine ⟨rfl, fun e k ns z => ?_, fun z => (by cases z)⟩
    cases z
    exact ⟨rfl, fun q v hv => ntw_v hv⟩
  · rw [if_neg hb, if_neg hb]
    exact ⟨rfl, fun e k ns z => (by cases z), fun _ => Or.inl rfl⟩
theorem fin_2 (row : Nat → Int32) (h0 : mtF T (frm 0) s = (s, false, [])) (h1 : mtF T (frm 1) s = (s, false, [])) (h3 : mtF T (frm 3) s = (s, false, [])) (h4 : mtF T (frm 4) s = (s, false, [])) (h5 : mtF T (frm 5) s = (s, false, [])) (h6 : mtF T (frm 6) s = (s, false, [])) (h7 : mtF T (frm 7) s = (s, false, [])) (h8 : mtF T (frm 8) s = (s, false, [])) (h9 : mtF T (frm 9) s = (s, false, [])) (h10 : mtF T (frm 10) s = (s, false, [])) (hs : sel T s = some 2) : Fin T s row := by
  have er := rd1_k hs (by decide)
  have hge := mt_ge (T := T) (frm 2) s
  unfold Fin
  rw [er]
  have e1 : stp T s 11 = (mtF T (frm 2) s).1 := by
    simp only [stp, h0, h1, h3, h4, h5, h6, h7, h8, h9, h10]
    omega
  have e2 : nrw T s row 11 = ntw 0 (mtF T (frm 2) s).2.2 row := by
    simp only [nrw, h0, h1, h3, h4, h5, h6, h7, h8, h9, h10, ntw_0]
  have e3 : bst T s 11 = if (mtF T (frm 2) s).2.1 = true then some ((mtF T (frm 2) s).1, 2) else none := by
    simp only [bst, h0, h1, h3, h4, h5, h6, h7, h8, h9, h10, Bool.false_eq_true, if_false]
  rw [e1, e2, e3]
  by_cases hb : (mtF T (frm 2) s).2.1 = true
  · rw [if_pos hb, if_pos hb]
    refine ⟨rfl, fun e k ns z => ?_, fun z => (by cases z)⟩
    cases z
    exact ⟨rfl, fun q v hv => ntw_v hv⟩
  · rw [if_neg hb, if_neg hb]
    exact ⟨rfl, fun e k ns z => (by cases z), fun _ => Or.inl rfl⟩
theorem fin_5 (row : Nat → Int32) (h0 : mtF T (frm 0) s = (s, false, [])) (h1 : mtF T (frm 1) s = (s, false, [])) (h2 : mtF T (frm 2) s = (s, false, [])) (h3 : mtF T (frm 3) s = (s, false, [])) (h4 : mtF T (frm 4) s = (s, false, [])) (h6 : mtF T (frm 6) s = (s, false, [])) (h7 : mtF T (frm 7) s = (s, false, [])) (h8 : mtF T (frm 8) s = (s, false, [])) (h9 : mtF T (frm 9) s = (s, false, [])) (h10 : mtF T (frm 10) s = (s, false, [])) (hs : sel T s = some 5) : Fin T s row := by
  have er := rd1_k hs (by decide)
  have hge := mt_ge (T := T) (frm 5) s
  unfold Fin
  rw [er]
  have e1 : stp T s 11 = (mtF T (frm 5) s).1 := by
    simp only [stp, h0, h1, h2, h3, h4, h6, h7, h8, h9, h10]
    omega
  have e2 : nrw T s row 11 = ntw 0 (mtF T (frm 5) s).2.2 row := by
    simp only [nrw, h0, h1, h2, h3, h4, h6, h7, h8, h9, h10, ntw_0]
  have e3 : bst T s 11 = if (mtF T (frm 5) s).2.1 = true then some ((mtF T (frm 5) s).1, 5) else none := by
    simp only [bst, h0, h1, h2, h3, h4, h6, h7, h8, h9, h10, Bool.false_eq_true, if_false]
  rw [e1, e2, e3]
  by_cases hb : (mtF T (frm 5) s).2.1 = true
  · rw [if_pos hb, if_pos hb]
    refine ⟨rfl, fun e k ns z => ?_, fun z => (by cases z)⟩
    cases z
    exact ⟨rfl, fun q v hv => ntw_v hv⟩
  · rw [if_neg hb, if_neg hb]
    exact ⟨rfl, fun e k ns z => (by cases z), fun _ => Or.inl rfl⟩
theorem fin_7 (row : Nat → Int32) (h0 : mtF T (frm 0) s = (s, false, [])) (h1 : mtF T (frm 1) s = (s, false, [])) (h2 : mtF T (frm 2) s = (s, false, [])) (h3 : mtF T (frm 3) s = (s, false, [])) (h4 : mtF T (frm 4) s = (s, false, [])) (h5 : mtF T (frm 5) s = (s, false, [])) (h6 : mtF T (frm 6) s = (s, false, [])) (h8 : mtF T (frm 8) s = (s, false, [])) (h9 : mtF T (frm 9) s = (s, false, [])) (h10 : mtF T (frm 10) s = (s, false, [])) (hs : sel T s = some 7) : Fin T s row := by
  have er := rd1_k hs (by decide)
  have hge := mt_ge (T := T) (frm 7) s
  unfold Fin
  rw [er]
  have e1 : stp T s 11 = (mtF T (frm 7) s).1 := by
    simp only [stp, h0, h1, h2, h3, h4, h5, h6, h8, h9, h10]
    omega
  have e2 : nrw T s row 11 = ntw 0 (mtF T (frm 7) s).2.2 row := by
    simp only [nrw, h0, h1, h2, h3, h4, h5, h6, h8, h9, h10, ntw_0]
  have e3 : bst T s 11 = if (mtF T (frm 7) s).2.1 = true then some ((mtF T (frm 7) s).1, 7) else none := by
    simp only [bst, h0, h1, h2, h3, h4, h5, h6, h8, h9, h10, Bool.false_eq_true, if_false]
  rw [e1, e2, e3]
  by_cases hb : (mtF T (frm 7) s).2.1 = true
  · rw [if_pos hb, if_pos hb]
    refine ⟨rfl, fun e k ns z => ?_, fun z => (by cases z)⟩
    cases z
    exact ⟨rfl, fun q v hv => ntw_v hv⟩
  · rw [if_neg hb, if_neg hb]
    exact ⟨rfl, fun e k ns z => (by cases z), fun _ => Or.inl rfl⟩
theorem fin_3 (row : Nat → Int32) (h0 : mtF T (frm 0) s = (s, false, [])) (h1 : mtF T (frm 1) s = (s, false, [])) (h2 : mtF T (frm 2) s = (s, false, [])) (h4 : mtF T (frm 4) s = (s, false, [])) (h5 : mtF T (frm 5) s = (s, false, [])) (h6 : mtF T (frm 6) s = (s, false, [])) (h7 : mtF T (frm 7) s = (s, false, [])) (h8 : mtF T (frm 8) s = (s + 1, false, [])) (h9 : mtF T (frm 9) s = (s, false, [])) (h10 : mtF T (frm 10) s = (s, false, [])) (hr : s + 1 ≤ (mtF T (frm 3) s).1) (hs : sel T s = some 3) : Fin T s row := by
  have er := rd1_k hs (by decide)
  have hge := mt_ge (T := T) (frm 3) s
  unfold Fin
  rw [er]
  have e1 : stp T s 11 = (mtF T (frm 3) s).1 := by
    simp only [stp, h0, h1, h2, h4, h5, h6, h7, h8, h9, h10]
    omega
  have e2 : nrw T s row 11 = ntw 0 (mtF T (frm 3) s).2.2 row := by
    simp only [nrw, h0, h1, h2, h4, h5, h6, h7, h8, h9, h10, ntw_0]
  have e3 : bst T s 11 = if (mtF T (frm 3) s).2.1 = true then some ((mtF T (frm 3) s).1, 3) else none := by
    simp only [bst, h0, h1, h2, h4, h5, h6, h7, h8, h9, h10, Bool.false_eq_true, if_false]
  rw [e1, e2, e3]
  by_cases hb : (mtF T (frm 3) s).2.1 = true
  · rw [if_pos hb, if_pos hb]
    refine ⟨rfl, fun e k ns z => ?_, fun z => (by cases z)⟩
    cases z
    exact ⟨rfl, fun q v hv => ntw_v hv⟩
  · rw [if_neg hb, if_neg hb]
    exact ⟨rfl, fun e k ns z => (by cases z), fun _ => Or.inl rfl⟩
theorem fin_8 (row : Nat → Int32) (h0 : mtF T (frm 0) s = (s, false, [])) (h1 : mtF T (frm 1) s = (s, false, [])) (h2 : mtF T (frm 2) s = (s, false, [])) (h3 : mtF T (frm 3) s = (s + 1, false, [])) (h4 : mtF T (frm 4) s = (s, false, [])) (h5 : mtF T (frm 5) s = (s, false, [])) (h6 : mtF T (frm 6) s = (s, false, [])) (h7 : mtF T (frm 7) s = (s, false, [])) (h9 : mtF T (frm 9) s = (s, false, [])) (h10 : mtF T (frm 10) s = (s, false, [])) (hr : s + 1 ≤ (mtF T (frm 8) s).1) (hs : sel T s = some 8) : Fin T s row := by
  have er := rd1_k hs (by decide)
  have hge := mt_ge (T := T) (frm 8) s
  unfold Fin
  rw [er]
  have e1 : stp T s 11 = (mtF T (frm 8) s).1 := by
    simp only [stp, h0, h1, h2, h3, h4, h5, h6, h7, h9, h10]
    omega
  have e2 : nrw T s row 11 = ntw 0 (mtF T (frm 8) s).2.2 row := by
    simp only [nrw, h0, h1, h2, h3, h4, h5, h6, h7, h9, h10, ntw_0]
  have e3 : bst T s 11 = if (mtF T (frm 8) s).2.1 = true then some ((mtF T (frm 8) s).1, 8) else none := by
    simp only [bst, h0, h1, h2, h3, h4, h5, h6, h7, h9, h10, Bool.false_eq_true, if_false]
  rw [e1, e2, e3]
  by_cases hb : (mtF T (frm 8) s).2.1 = true
  · rw [if_pos hb, if_pos hb]
    refine ⟨rfl, fun e k ns z => ?_, fun z => (by cases z)⟩
    cases z
    exact ⟨rfl, fun q v hv => ntw_v hv⟩
  · rw [if_neg hb, if_neg hb]
    exact ⟨rfl, fun e k ns z => (by cases z), fun _ => Or.inl rfl⟩
theorem fin_4 (row : Nat → Int32) (h0 : mtF T (frm 0) s = (s, false, [])) (h1 : mtF T (frm 1) s = (s, false, [])) (h2 : mtF T (frm 2) s = (s, false, [])) (h3 : mtF T (frm 3) s = (s, false, [])) (h5 : mtF T (frm 5) s = (s, false, [])) (h6 : mtF T (frm 6) s = (s + 1, false, [])) (h7 : mtF T (frm 7) s = (s, false, [])) (h8 : mtF T (frm 8) s = (s, false, [])) (h9 : mtF T (frm 9) s = (s, false, [])) (h10 : mtF T (frm 10) s = (s, false, [])) (hr : s + 1 ≤ (mtF T (frm 4) s).1) (hs : sel T s = some 4) : Fin T s row := by
  have er := rd1_k hs (by decide)
  have hge := mt_ge (T := T) (frm 4) s
  unfold Fin
  rw [er]
  have e1 : stp T s 11 = (mtF T (frm 4) s).1 := by
    simp only [stp, h0, h1, h2, h3, h5, h6, h7, h8, h9, h10]
    omega
  have e2 : nrw T s row 11 = ntw 0 (mtF T (frm 4) s).2.2 row := by
    simp only [nrw, h0, h1, h2, h3, h5, h6, h7, h8, h9, h10, ntw_0]
  have e3 : bst T s 11 = if (mtF T (frm 4) s).2.1 = true then some ((mtF T (frm 4) s).1, 4) else none := by
    simp only [bst, h0, h1, h2, h3, h5, h6, h7, h8, h9, h10, Bool.false_eq_true, if_false]
  rw [e1, e2, e3]
  by_cases hb : (mtF T (frm 4) s).2.1 = true
  · rw [if_pos hb, if_pos hb]
    refine ⟨rfl, fun e k ns z => ?_, fun z => (by cases z)⟩
    cases z
    exact ⟨rfl, fun q v hv => ntw_v hv⟩
  · rw [if_neg hb, if_neg hb]
    exact ⟨rfl, fun e k ns z => (by cases z), fun _ => Or.inl rfl⟩
theorem fin_6 (row : Nat → Int32) (h0 : mtF T (frm 0) s = (s, false, [])) (h1 : mtF T (frm 1) s = (s, false, [])) (h2 : mtF T (frm 2) s = (s, false, [])) (h3 : mtF T (frm 3) s = (s, false, [])) (h4 : mtF T (frm 4) s = (s + 1, false, [])) (h5 : mtF T (frm 5) s = (s, false, [])) (h7 : mtF T (frm 7) s = (s, false, [])) (h8 : mtF T (frm 8) s = (s, false, [])) (h9 : mtF T (frm 9) s = (s, false, [])) (h10 : mtF T (frm 10) s = (s, false, [])) (hr : s + 1 ≤ (mtF T (frm 6) s).1) (hs : sel T s = some 6) : Fin T s row := by
  have er := rd1_k hs (by decide)
  have hge := mt_ge (T := T) (frm 6) s
  unfold Fin
  rw [er]
  have e1 : stp T s 11 = (mtF T (frm 6) s).1 := by
    simp only [stp, h0, h1, h2, h3, h4, h5, h7, h8, h9, h10]
    omega
  have e2 : nrw T s row 11 = ntw 0 (mtF T (frm 6) s).2.2 row := by
    simp only [nrw, h0, h1, h2, h3, h4, h5, h7, h8, h9, h10, ntw_0]
  have e3 : bst T s 11 = if (mtF T (frm 6) s).2.1 = true then some ((mtF T (frm 6) s).1, 6) else none := by
    simp only [bst, h0, h1, h2, h3, h4, h5, h7, h8, h9, h10, Bool.false_eq_true, if_false]
  rw [e1, e2, e3]
  by_cases hb : (mtF T (frm 6) s).2.1 = true
  · rw [if_pos hb, if_pos hb]
    refine ⟨rfl, fun e k ns z => ?_, fun z => (by cases z)⟩
    cases z
    exact ⟨rfl, fun q v hv => ntw_v hv⟩
  · rw [if_neg hb, if_neg hb]
    exact ⟨rfl, fun e k ns z => (by cases z), fun _ => Or.inl rfl⟩
theorem fin_w (row : Nat → Int32) (h0 : mtF T (frm 0) s = (s, false, [])) (h1 : mtF T (frm 1) s = (s, false, [])) (h2 : mtF T (frm 2) s = (s, false, [])) (h3 : mtF T (frm 3) s = (s, false, [])) (h4 : mtF T (frm 4) s = (s, false, [])) (h5 : mtF T (frm 5) s = (s, false, [])) (h6 : mtF T (frm 6) s = (s, false, [])) (h7 : mtF T (frm 7) s = (s, false, [])) (h8 : mtF T (frm 8) s = (s, false, [])) (hs : sel T s = some 10) (hw : T[s]? = some 119) : Fin T s row := by
  have hge := mt_ge (T := T) (frm 9) s
  have hge2 := mt_ge (T := T) (frm 10) s
  have e1 : stp T s 11 = max (mtF T (frm 9) s).1 (mtF T (frm 10) s).1 := by
    simp only [stp, h0, h1, h2, h3, h4, h5, h6, h7, h8]
    omega
  have e2 : nrw T s row 11 = ntw 0 (mtF T (frm 10) s).2.2 (ntw 0 (mtF T (frm 9) s).2.2 row) := by
    simp only [nrw, h0, h1, h2, h3, h4, h5, h6, h7, h8, ntw_0]
  have e3 : bst T s 11 = if (mtF T (frm 10) s).2.1 = true then (match (if (mtF T (frm 9) s).2.1 = true then some ((mtF T (frm 9) s).1, 9) else none : Option (Nat × Nat)) with
    | none => some ((mtF T (frm 10) s).1, 10)
    | some (e, j) => if e < (mtF T (frm 10) s).1 then some ((mtF T (frm 10) s).1, 10) else some (e, j)) else (if (mtF T (frm 9) s).2.1 = true then some ((mtF T (frm 9) s).1, 9) else none) := by
    simp only [bst, h0, h1, h2, h3, h4, h5, h6, h7, h8, Bool.false_eq_true, if_false]
  have w0 : mtF T (frm 9) s = mtF T [97, 105, 116] (s + 1) := mt_eq (by decide) (by decide) hw
  have v0 : mtF T (frm 10) s = mtF T [97, 105, 116, 32, 42] (s + 1) := mt_eq (by decide) (by decide) hw
  have er : rd1 T s = if (mtF T (frm 10) s).2.1 = true then ((mtF T (frm 10) s).1, some (10, (mtF T (frm 10) s).2.2)) else if (mtF T (frm 9) s).2.1 = true ∧ T[s + 4]? ≠ some 32 then (s + 4, some (9, [])) else ((mtF T (frm 10) s).1, none) := by
    unfold rd1
    rw [hs]
    simp only
    split
    · rfl
    · by_cases z : (mtF T (frm 9) s).2.1 = true ∧ T[s + 4]? ≠ some 32
      · rw [if_pos ⟨trivial, z⟩, if_pos z]
      · rw [if_neg (fun y => z y.2), if_neg z]
  unfold Fin
  rw [e1, e2, e3, er, w0, v0]
  by_cases a1 : T[s + 1]? = some 97
  · rw [mt_eq (by decide) (by decide) a1, mt_eq (by decide) (by decide) a1]
    by_cases a2 : T[s + 1 + 1]? = some 105
    · rw [mt_eq (by decide) (by decide) a2, mt_eq (by decide) (by decide) a2]
      by_cases a3 : T[s + 1 + 1 + 1]? = some 116
      · rw [mt_eq (by decide) (by decide) a3, mt_eq (by decide) (by decide) a3]
        have g0 : mtF T [] (s + 1 + 1 + 1 + 1) = (s + 4, true, []) := rfl
        rw [g0]
        by_cases a4 : T[s + 4]? = some 32
        · have g1 : mtF T [32, 42] (s + 1 + 1 + 1 + 1) = mtF T [42] (s + 1 + 1 + 1 + 1 + 1) := mt_eq (by decide) (by decide) a4
          rw [g1]
          have g2 := mt_ge (T := T) [42] (s + 1 + 1 + 1 + 1 + 1)
          by_cases b : (mtF T [42] (s + 1 + 1 + 1 + 1 + 1)).2.1 = true
          · rw [if_pos b, if_pos b]
            simp only [if_true]
            rw [if_pos (by omega)]
            refine ⟨by omega, fun e k ns z => ?_, fun z => (by cases z)⟩
            cases z
            exact ⟨rfl, fun q v hv => ntw_v hv⟩
          · rw [if_neg b, if_neg b, if_neg (fun z => z.2 a4)]
            simp only [if_true]
            exact ⟨by omega, fun e k ns z => (by cases z), fun _ => Or.inr ⟨9, rfl, a4⟩⟩
        · have g1 : mtF T [32, 42] (s + 1 + 1 + 1 + 1) = (s + 1 + 1 + 1 + 1, false, []) := mt_ne (by decide) (by decide) a4
          rw [g1]
          simp only [Bool.false_eq_true, if_false, if_true, ne_eq, a4, not_false_eq_true, and_self]
          refine ⟨by omega, fun e k ns z => ?_, fun z => (by cases z)⟩
          cases z
          exact ⟨rfl, fun q v hv => by simp at hv⟩
      · rw [mt_ne (by decide) (by decide) a3, mt_ne (by decide) (by decide) a3]
        simp only [Bool.false_eq_true, if_false, false_and]
        exact ⟨by omega, fun e k ns z => (by cases z), fun _ => Or.inl trivial⟩
    · rw [mt_ne (by decide) (by decide) a2, mt_ne (by decide) (by decide) a2]
      simp only [Bool.false_eq_true, if_false, false_and]
      exact ⟨by omega, fun e k ns z => (by cases z), fun _ => Or.inl trivial⟩
  · rw [mt_ne (by decide) (by decide) a1, mt_ne (by decide) (by decide) a1]
    simp only [Bool.false_eq_true, if_false, false_and]
    exact ⟨by omega, fun e k ns z => (by cases z), fun _ => Or.inl trivial⟩
theorem fin_all (T : List Nat) (s : Nat) (row : Nat → Int32) : Fin T s row := by
  have n0 : T[s]? ≠ some 98 → mtF T (frm 0) s = (s, false, []) := fun h => mt_ne (by decide) (by decide) h
  have n1 : T[s]? ≠ some 112 → mtF T (frm 1) s = (s, false, []) := fun h => mt_ne (by decide) (by decide) h
  have n2 : T[s]? ≠ some 108 → mtF T (frm 2) s = (s, false, []) := fun h => mt_ne (by decide) (by decide) h
  have n3 : T[s]? ≠ some 116 → mtF T (frm 3) s = (s, false, []) := fun h => mt_ne (by decide) (by decide) h
  have n4 : T[s]? ≠ some 115 → mtF T (frm 4) s = (s, false, []) := fun h => mt_ne (by decide) (by decide) h
  have n5 : T[s]? ≠ some 102 → mtF T (frm 5) s = (s, false, []) := fun h => mt_ne (by decide) (by decide) h
  have n6 : T[s]? ≠ some 115 → mtF T (frm 6) s = (s, false, []) := fun h => mt_ne (by decide) (by decide) h
  have n7 : T[s]? ≠ some 111 → mtF T (frm 7) s = (s, false, []) := fun h => mt_ne (by decide) (by decide) h
  have n8 : T[s]? ≠ some 116 → mtF T (frm 8) s = (s, false, []) := fun h => mt_ne (by decide) (by decide) h
  have n9 : T[s]? ≠ some 119 → mtF T (frm 9) s = (s, false, []) := fun h => mt_ne (by decide) (by decide) h
  have n10 : T[s]? ≠ some 119 → mtF T (frm 10) s = (s, false, []) := fun h => mt_ne (by decide) (by decide) h
  have p3 : T[s]? = some 116 → mtF T (frm 3) s = mtF T [114, 97, 105, 110, 32, 42, 62, 42] (s + 1) := fun h => mt_eq (by decide) (by decide) h
  have p8 : T[s]? = some 116 → mtF T (frm 8) s = mtF T [104, 114, 111, 119, 32, 35] (s + 1) := fun h => mt_eq (by decide) (by decide) h
  have p4 : T[s]? = some 115 → mtF T (frm 4) s = mtF T [101, 116, 32, 42] (s + 1) := fun h => mt_eq (by decide) (by decide) h
  have p6 : T[s]? = some 115 → mtF T (frm 6) s = mtF T [104, 117, 116, 32, 42] (s + 1) := fun h => mt_eq (by decide) (by decide) h
  by_cases e : T[s]? = some 98
  · exact fin_0' row (n1 (by rw [e]; decide)) (n2 (by rw [e]; decide)) (n3 (by rw [e]; decide)) (n4 (by rw [e]; decide)) (n5 (by rw [e]; decide)) (n6 (by rw [e]; decide)) (n7 (by rw [e]; decide)) (n8 (by rw [e]; decide)) (n9 (by rw [e]; decide)) (n10 (by rw [e]; decide)) (by unfold sel; rw [e]; rfl)
  by_cases e : T[s]? = some 112
  · exact fin_1 row (n0 (by rw [e]; decide)) (n2 (by rw [e]; decide)) (n3 (by rw [e]; decide)) (n4 (by rw [e]; decide)) (n5 (by rw [e]; decide)) (n6 (by rw [e]; decide)) (n7 (by rw [e]; decide)) (n8 (by rw [e]; decide)) (n9 (by rw [e]; decide)) (n10 (by rw [e]; decide)) (by unfold sel; rw [e]; rfl)
  by_cases e : T[s]? = some 108
  · exact fin_2 row (n0 (by rw [e]; decide)) (n1 (by rw [e]; decide)) (n3 (by rw [e]; decide)) (n4 (by rw [e]; decide)) (n5 (by rw [e]; decide)) (n6 (by rw [e]; decide)) (n7 (by rw [e]; decide)) (n8 (by rw [e]; decide)) (n9 (by rw [e]; decide)) (n10 (by rw [e]; decide)) (by unfold sel; rw [e]; rfl)
  by_cases e : T[s]? = some 102
  · exact fin_5 row (n0 (by rw [e]; decide)) (n1 (by rw [e]; decide)) (n2 (by rw [e]; decide)) (n3 (by rw [e]; decide)) (n4 (by rw [e]; decide)) (n6 (by rw [e]; decide)) (n7 (by rw [e]; decide)) (n8 (by rw [e]; decide)) (n9 (by rw [e]; decide)) (n10 (by rw [e]; decide)) (by unfold sel; rw [e]; rfl)
  by_cases e : T[s]? = some 111
  · exact fin_7 row (n0 (by rw [e]; decide)) (n1 (by rw [e]; decide)) (n2 (by rw [e]; decide)) (n3 (by rw [e]; decide)) (n4 (by rw [e]; decide)) (n5 (by rw [e]; decide)) (n6 (by rw [e]; decide)) (n8 (by rw [e]; decide)) (n9 (by rw [e]; decide)) (n10 (by rw [e]; decide)) (by unfold sel; rw [e]; rfl)
  by_cases e : T[s]? = some 116
  · by_cases e2 : T[s + 1]? = some 104
    · have ea : mtF T (frm 3) s = (s + 1, false, []) := (p3 e).trans (mt_ne (by decide) (by decide) (by rw [e2]; decide))
      have hr : s + 1 ≤ (mtF T (frm 8) s).1 := by rw [p8 e]; exact mt_ge _ _
      exact fin_8 row (n0 (by rw [e]; decide)) (n1 (by rw [e]; decide)) (n2 (by rw [e]; decide)) ea (n4 (by rw [e]; decide)) (n5 (by rw [e]; decide)) (n6 (by rw [e]; decide)) (n7 (by rw [e]; decide)) (n9 (by rw [e]; decide)) (n10 (by rw [e]; decide)) hr (by unfold sel; rw [e]; simp only; rw [if_pos e2])
    · have eb : mtF T (frm 8) s = (s + 1, false, []) := (p8 e).trans (mt_ne (by decide) (by decide) e2)
      have hr : s + 1 ≤ (mtF T (frm 3) s).1 := by rw [p3 e]; exact mt_ge _ _
      exact fin_3 row (n0 (by rw [e]; decide)) (n1 (by rw [e]; decide)) (n2 (by rw [e]; decide)) (n4 (by rw [e]; decide)) (n5 (by rw [e]; decide)) (n6 (by rw [e]; decide)) (n7 (by rw [e]; decide)) eb (n9 (by rw [e]; decide)) (n10 (by rw [e]; decide)) hr (by unfold sel; rw [e]; simp only; rw [if_neg e2])
  by_cases e : T[s]? = some 115
  · by_cases e2 : T[s + 1]? = some 104
    · have ea : mtF T (frm 4) s = (s + 1, false, []) := (p4 e).trans (mt_ne (by decide) (by decide) (by rw [e2]; decide))
      have hr : s + 1 ≤ (mtF T (frm 6) s).1 := by rw [p6 e]; exact mt_ge _ _
      exact fin_6 row (n0 (by rw [e]; decide)) (n1 (by rw [e]; decide)) (n2 (by rw [e]; decide)) (n3 (by rw [e]; decide)) ea (n5 (by rw [e]; decide)) (n7 (by rw [e]; decide)) (n8 (by rw [e]; decide)) (n9 (by rw [e]; decide)) (n10 (by rw [e]; decide)) hr (by unfold sel; rw [e]; simp only; rw [if_pos e2])
    · have eb : mtF T (frm 6) s = (s + 1, false, []) := (p6 e).trans (mt_ne (by decide) (by decide) e2)
      have hr : s + 1 ≤ (mtF T (frm 4) s).1 := by rw [p4 e]; exact mt_ge _ _
      exact fin_4 row (n0 (by rw [e]; decide)) (n1 (by rw [e]; decide)) (n2 (by rw [e]; decide)) (n3 (by rw [e]; decide)) (n5 (by rw [e]; decide)) eb (n7 (by rw [e]; decide)) (n8 (by rw [e]; decide)) (n9 (by rw [e]; decide)) (n10 (by rw [e]; decide)) hr (by unfold sel; rw [e]; simp only; rw [if_neg e2])
  by_cases e : T[s]? = some 119
  · exact fin_w row (n0 (by rw [e]; decide)) (n1 (by rw [e]; decide)) (n2 (by rw [e]; decide)) (n3 (by rw [e]; decide)) (n4 (by rw [e]; decide)) (n5 (by rw [e]; decide)) (n6 (by rw [e]; decide)) (n7 (by rw [e]; decide)) (n8 (by rw [e]; decide)) (by unfold sel; rw [e]; rfl) e
  rename_i e0 e1 e2 e5 e7 e3 e4
  refine fin_0 row (fun k hk => ?_) ?_
  · have : k = 0 ∨ k = 1 ∨ k = 2 ∨ k = 3 ∨ k = 4 ∨ k = 5 ∨ k = 6 ∨ k = 7 ∨ k = 8 ∨ k = 9 ∨ k = 10 := by omega
    rcases this with rfl | rfl | rfl | rfl | rfl | rfl | rfl | rfl | rfl | rfl | rfl
    · exact n0 e0
    · exact n1 e1
    · exact n2 e2
    · exact n3 e3
    · exact n4 e4
    · exact n5 e5
    · exact n6 e4
    · exact n7 e7
    · exact n8 e3
    · exact n9 e
    · exact n10 e
  · unfold sel
    split
    · rename_i z; exact absurd z e0
    · rename_i z; exact absurd z e1
    · rename_i z; exact absurd z e2
    · rename_i z; exact absurd z e3
    · rename_i z; exact absurd z e4
    · rename_i z; exact absurd z e5
    · rename_i z; exact absurd z e7
    · rename_i z; exact absurd z e
    · rfl
end PS
