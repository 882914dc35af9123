/-! THE START: what the premises give, as the relation of the abstract start heap to the machine's -/
theorem eqR {args : Array Value} {s : State} {t u : Term} {b : Nat} (h : (Cond.eq t u).before args s = true) (hu : u.eval args s none [] s = some (.ref b)) : t.eval args s none [] s = some (.ref b) := by
  cases hv : t.eval args s none [] s with
  | none => simp [Cond.before, Cond.holds, Cond.value, hv] at h
  | some w =>
    simp only [Cond.before, Cond.holds, Cond.value, hv, hu] at h
    cases w <;> simp_all
theorem zxR {args : Array Value} {s : State} {t : Term} {nm : String} (h : (Cond.exactly t nm).before args s = true) : ∃ a : Nat, t.eval args s none [] s = some (.ref a) := by
  obtain ⟨a, c, cell, k, q1, -⟩ := Cond.exactly_spec h
  exact ⟨a, q1⟩
theorem va_T.cg {ty : FieldType} {t N : Nat} {f g : Nat → Value} {A : Nat → Prop} {U : State} {H : Heap} (h : va_T ty t N f A U H) (hfg : ∀ j, j < N → f j = g j) : va_T ty t N g A U H := by
  obtain ⟨cell, h1, h2, h3, h4, h5, h6, h7⟩ := h
  exact ⟨cell, h1, h2, h3, h4, h5, fun j hj => by rw [h6 j hj, hfg j hj], h7⟩
theorem sel_x {y z : MethodName} {C : String} {s : State} {args : Array Value} (hy : y.cls ≠ "java/lang/invoke/MethodHandle" ∧ y.cls ≠ "java/lang/invoke/VarHandle") (hz : z.cls = y.cls)
    (hs : (Cond.selects C z z).before args s = true) (hp : (Cond.privateMethod y).before args s = true) (hi : (Cond.instanceMethod y).before args s = true) : (Cond.selects C y y).before args s = true := by
  obtain ⟨c, r, m, h1, -, h3, -, mk, h5, h6⟩ := Cond.selects_spec hs
  obtain ⟨m2, meth, hn, hm, -, -⟩ := Cond.instanceMethod_spec hi
  have hf : s.methodFound? y.cls y.name y.desc = some m2 := State.methodFound?_of_named hn hy
  have hc : m.cls = m2.cls := by
    have e1 := findClass_of_methodNamed h3
    have e2 := findClass_of_methodNamed hn
    rw [hz] at e1
    exact Option.some.inj (e1.symm.trans e2)
  have hsel : selectMethod {} s.vm c m2 = .method m2 := selectMethod_private hm (Cond.privateMethod_at hp m2 meth hn hm)
  rw [hc] at h5
  simp only [Cond.before, Cond.holds, Cond.value, h1, hf, hn, hsel, h5]
  simp; exact h6
theorem ax_AOA {args : Array Value} {s : State} (h : (Cond.arrayOver (.array .int)).before args s = true) : ∃ (comp c : ClassId) (k : Class), s.vm.findClass "[I" = some comp ∧ s.vm.findClass "[[I" = some c ∧ s.vm.classes[c]? = some k ∧ k.kind = .array comp (.array .int) := by
  have e1 : (FieldType.array FieldType.int).toString = "[I" := by decide +kernel
  have e2 : "[" ++ (FieldType.array FieldType.int).toString = "[[I" := by decide +kernel
  simp only [Cond.before, Cond.holds, Cond.value, beq_iff_eq] at h
  rw [e2] at h
  rw [e1] at h
  cases hc : s.vm.findClass "[I" with
  | none => simp [hc] at h
  | some comp =>
    simp only [hc, Option.bind_some, Option.bind_eq_some_iff, Option.map_eq_some_iff] at h
    obtain ⟨c, hi, k, hk, hb⟩ := h
    obtain ⟨hlt, hp, -⟩ := Array.findIdx?_eq_some_iff_getElem.mp hi
    have hkk : s.vm.classes[c] = k := (Array.getElem?_eq_some_iff.mp hk).2
    rw [hkk] at hp
    cases hkind : k.kind with
    | array component ty =>
      rw [hkind] at hb hp
      simp at hb hp
      exact ⟨comp, c, k, rfl, hb.2, hk, by rw [hkind, hp, hb.1]⟩
    | _ => rw [hkind] at hb; simp at hb
/-- the words of the contracts, at the law's entry -/
theorem gw_at {args : Array Value} {s : State} (hT : ∀ w ∈ lw_tbl, w.before args s = true) : ∀ w ∈ gw, w.before args s = true := by
  intro w hw
  rcases List.mem_append.mp (List.mem_filter.mp hw).1 with h | h
  · exact hT w h
  · obtain ⟨y, hy, rfl⟩ := List.mem_map.mp h
    have hc : y.cls = "java/lang/AbstractStringBuilder" := by
      have : ∀ y ∈ xsl, y.cls = "java/lang/AbstractStringBuilder" := by decide +kernel
      exact this y hy
    exact sel_x (z := yASB) (by rw [hc]; decide +kernel) hc.symm (hT _ px_s) (hT _ (px_p y hy)) (hT _ (px_i y hy))
/-- the classes: their numbers, their slots; the arrays' classes -/
theorem st_K {args : Array Value} {s : State} (hT : ∀ w ∈ lw_tbl, w.before args s = true) : ∃ (D : va_G) (tc : Nat → ClassId), va_K D CL (tys tc) s := by
  have hg := gw_at hT
  have h1 : ∀ c : Nat, ∃ r : ClassId × (Nat → Nat), ∀ q, CL[c]? = some q → u_Kn s q.1 q.2.1 q.2.2 r.1 r.2 := by
    intro c
    have key : ∀ q, CL[c]? = some q → (∀ w ∈ u_ws q.1 q.2.1 q.2.2, w ∈ gw) → ∃ r : ClassId × (Nat → Nat), ∀ q, CL[c]? = some q → u_Kn s q.1 q.2.1 q.2.2 r.1 r.2 := by
      intro q hq hin
      obtain ⟨cC, iS, h⟩ := u_known (ws := gw) (C := q.1) (T := q.2.1) (N := q.2.2) (n := q.2.2) hg hin (hT _ (pz_c q (List.mem_of_getElem? hq)))
      refine ⟨(cC, iS), fun q2 h2 => ?_⟩
      rw [hq] at h2
      cases h2
      exact h
    match c with
    | 0 => exact key _ rfl us_X9
    | 1 => exact key _ rfl us_X2
    | 2 => exact key _ rfl us_X4
    | 3 => exact key _ rfl us_X5
    | 4 => exact key _ rfl us_X6
    | 5 => exact key _ rfl us_X7
    | 6 => exact key _ rfl us_X8
    | 7 => exact key _ rfl us_J0
    | 8 => exact key _ rfl us_J4
    | n + 9 => exact ⟨(0, fun _ => 0), fun q hq => by simp at hq⟩
  obtain ⟨dd, hdd⟩ := Classical.axiomOfChoice h1
  have h2 : ∀ t : Nat, ∃ cA : ClassId, t < 9 → ArrOfT s cA (ty_ t) ∧ va_RA s cA (ty_ t) := by
    intro t
    have kp : ∀ ty : FieldType, ty ∈ [FieldType.int, .long, .byte, .char] → (∀ cA, va_RA s cA ty = (s.vm.findClass ("[" ++ ty.toString) = some cA)) → ∃ cA : ClassId, ArrOfT s cA ty ∧ va_RA s cA ty := by
      intro ty hty hra
      obtain ⟨c, k, comp, e1, e2, e3⟩ := Cond.arrayClass_spec (hT _ (pn_p ty hty))
      exact ⟨c, fun N z => ⟨(fun k h => by cases h), k, e2, comp, e3⟩, by rw [hra]; exact e1⟩
    have ko : ∀ C : String, C ∈ [RX7, RX8, RX1] → ∃ cA : ClassId, ArrOfT s cA (.object C) ∧ va_RA s cA (.object C) := by
      intro C hC
      obtain ⟨comp, c, k, e1, -, e3, e4, e5⟩ := Cond.arrayOver_spec (hT _ (pn_o C hC))
      exact ⟨c, fun N z => ⟨(fun k h => by cases h), k, e3, comp, e4⟩, k, comp, e3, e4, e1, e5⟩
    match t with
    | 0 => exact (kp .int (by decide) (fun _ => rfl)).imp fun _ h _ => h
    | 1 => exact (kp .long (by decide) (fun _ => rfl)).imp fun _ h _ => h
    | 2 => exact (kp .byte (by decide) (fun _ => rfl)).imp fun _ h _ => h
    | 3 => exact (kp .byte (by decide) (fun _ => rfl)).imp fun _ h _ => h
    | 4 => exact (kp .char (by decide) (fun _ => rfl)).imp fun _ h _ => h
    | 5 => exact (ko RX7 (by decide)).imp fun _ h _ => h
    | 6 => exact (ko RX8 (by decide)).imp fun _ h _ => h
    | 7 => exact (ko RX1 (by decide)).imp fun _ h _ => h
    | 8 =>
      obtain ⟨comp, c, k, e1, e2, e3, e4⟩ := ax_AOA (hT _ pn_a)
      have e5 : "[" ++ (FieldType.array FieldType.int).toString = "[[I" := by decide +kernel
      exact ⟨c, fun _ => ⟨fun N z => ⟨(fun k h => by cases h), k, e3, comp, e4⟩, by show s.vm.findClass ("[" ++ (FieldType.array FieldType.int).toString) = some c; rw [e5]; exact e2⟩⟩
    | n + 9 => exact ⟨0, fun h => absurd h (by omega)⟩
  obtain ⟨tc, htc⟩ := Classical.axiomOfChoice h2
  refine ⟨(fun c => (dd c).1, fun c => (dd c).2), tc, hdd, fun k q hk => ?_⟩
  unfold tys at hk
  rw [List.getElem?_map] at hk
  by_cases hk9 : k < 9
  · rw [List.getElem?_range hk9] at hk
    cases hk
    exact htc k hk9
  · rw [List.getElem?_eq_none (by rw [List.length_range]; omega)] at hk
    cases hk
/-- the start's strings -/
theorem st_S {args : Array Value} {s : State} {A : Nat → Prop} (hF : ∀ q ∈ pFL, q.before args s = true) (hA : ∀ a : Nat, a < s.heap.size → ¬ A a) : ∃ sq : Nat → Nat × Nat, ∀ i, i < 16 → (sT i).eval args s none [] s = some (.ref (sq i).1) ∧ va_O RJ0 (sq i).1 A s s.heap ∧
    va_OF "java/lang/String" "coder" "B" (.int (nI 0)) (sq i).1 A s s.heap ∧ va_OF "java/lang/String" "value" "[B" (.ref (sq i).2) (sq i).1 A s s.heap ∧ va_T .byte (sq i).2 (sN i).length (fun j => .int (nI ((sN i).getD j 0))) A s s.heap := by
  have h0 : ∀ i : Nat, ∃ q : Nat × Nat, i < 16 → (sT i).eval args s none [] s = some (.ref q.1) ∧ va_O RJ0 q.1 A s s.heap ∧
    va_OF "java/lang/String" "coder" "B" (.int (nI 0)) q.1 A s s.heap ∧ va_OF "java/lang/String" "value" "[B" (.ref q.2) q.1 A s s.heap ∧ va_T .byte q.2 (sN i).length (fun j => .int (nI ((sN i).getD j 0))) A s s.heap := by
    intro i
    by_cases hi : i < 16
    · obtain ⟨a, q1⟩ := zxR (hF _ (ps_ex i hi))
      have hl : ∀ i, i < 16 → (sN i).length < 2 ^ 31 := by decide +kernel
      obtain ⟨t, ht, hT⟩ := va_Tof (f := fun j => .int (nI ((sN i).getD j 0))) (A := A) (hl i hi) (hF _ (ps_ar i hi)) (va_eqt (hF _ (ps_le i hi))) (fun j hj => va_eqt (hF _ (ps_el i hi j hj))) hA
      exact ⟨(a, t), fun _ => ⟨q1, va_Oof (hF _ (ps_ex i hi)) q1 hA, vk_OFof q1 (va_eqt (hF _ (ps_co i hi))) hA, vk_OFof q1 ht hA, hT⟩⟩
    · exact ⟨(0, 0), fun h => absurd h hi⟩
  exact Classical.axiomOfChoice h0
/-- the commands -/
theorem st_C {args : Array Value} {s : State} {A : Nat → Prop} (hF : ∀ q ∈ pFL, q.before args s = true) (hA : ∀ a : Nat, a < s.heap.size → ¬ A a) {sq : Nat → Nat × Nat} (hs : ∀ i, i < 16 → (sT i).eval args s none [] s = some (.ref (sq i).1)) : ∃ cm : Nat → Nat, ∀ i, i < 11 → (cmT i).eval args s none [] s = some (.ref (cm i)) ∧ va_O RX1 (cm i) A s s.heap ∧
    va_OF "InterlockingBox$Command" "form" "Ljava/lang/String;" (.ref (sq i).1) (cm i) A s s.heap ∧ va_OF "java/lang/Enum" "ordinal" "I" (.int (nI i)) (cm i) A s s.heap := by
  have h0 : ∀ i : Nat, ∃ a : Nat, i < 11 → (cmT i).eval args s none [] s = some (.ref a) ∧ va_O RX1 a A s s.heap ∧
    va_OF "InterlockingBox$Command" "form" "Ljava/lang/String;" (.ref (sq i).1) a A s s.heap ∧ va_OF "java/lang/Enum" "ordinal" "I" (.int (nI i)) a A s s.heap := by
    intro i
    by_cases hi : i < 11
    · obtain ⟨a, q1⟩ := zxR (hF _ (pc_ex i hi))
      have e : ∀ i, i < 11 → Term.string "InterlockingBox$Command" (cmF i) = sT i := by decide +kernel
      have hf := hF _ (pc_fo i hi)
      rw [e i hi] at hf
      exact ⟨a, fun _ => ⟨q1, va_Oof (hF _ (pc_ex i hi)) q1 hA, vk_OFof q1 (eqR hf (hs i (by omega))) hA, vk_OFof q1 (va_eqt (hF _ (pc_or i hi))) hA⟩⟩
    · exact ⟨0, fun h => absurd h hi⟩
  exact Classical.axiomOfChoice h0
/-! the abstract start heap -/
def zS (L k : Nat) : Nat × Nat := if k = 1 then (107, 11) else if 2 ≤ k ∧ k < 13 then (21, 0) else if k = 13 then (100, 11) else if k = 14 ∨ k = 15 then (103, 100) else if 16 ≤ k ∧ k < 48 then (if k % 2 = 0 then (20, 0) else (103, (sN ((k - 16) / 2)).length)) else if k = 63 then (100, L) else (0, 0)
def zI (S : Nat → Int32) (k j : Nat) : Int32 := if 2 ≤ k ∧ k < 13 then (if j = 1 then nI (k - 2) else nI 0) else if k = 13 then nI (if j = 10 then 0 else j + 1) else if k = 14 then nI (48 + j / 10) else if k = 15 then nI (48 + j % 10) else if 16 ≤ k ∧ k < 48 then (if k % 2 = 0 then nI 0 else nI ((sN ((k - 16) / 2)).getD j 0)) else if k = 63 then S j else nI 0
def zR (k j : Nat) : Nat := if k = 1 then (if j < 11 then 2 + j else 0) else if 2 ≤ k ∧ k < 13 then (if j = 0 then 16 + 2 * (k - 2) else 0) else if 16 ≤ k ∧ k < 48 ∧ k % 2 = 0 then (if j = 0 then k + 1 else 0) else 0
def zH (S : Nat → Int32) (L : Nat) : AH := (zS L, zI S, zR, fun _ _ => 0, 64)
def zA (ac sm dT dO k9 b : Nat) (cm : Nat → Nat) (sq : Nat → Nat × Nat) (k : Nat) : Nat := if k = 1 then ac else if 2 ≤ k ∧ k < 13 then cm (k - 2) else if k = 13 then sm else if k = 14 then dT else if k = 15 then dO else if 16 ≤ k ∧ k < 48 then (if k % 2 = 0 then (sq ((k - 16) / 2)).1 else (sq ((k - 16) / 2)).2) else if k = 62 then k9 else b
section ZH
variable {S : Nat → Int32} {L : Nat}
theorem z_S1 : mS (zH S L) 1 = (107, 11) := rfl
theorem z_S2 {k : Nat} (h : k < 11) : mS (zH S L) (2 + k) = (21, 0) := by show zS L (2 + k) = _; unfold zS; rw [if_neg (by omega), if_pos (by omega)]
theorem z_S13 : mS (zH S L) 13 = (100, 11) := rfl
theorem z_S14 : mS (zH S L) 14 = (103, 100) := rfl
theorem z_S15 : mS (zH S L) 15 = (103, 100) := rfl
theorem z_Ss {i : Nat} (h : i < 16) : mS (zH S L) (16 + 2 * i) = (20, 0) := by show zS L (16 + 2 * i) = _; unfold zS; rw [if_neg (by omega), if_neg (by omega), if_neg (by omega), if_neg (by omega), if_pos (by omega), if_pos (by omega)]
theorem z_Sv {i : Nat} (h : i < 16) : mS (zH S L) (17 + 2 * i) = (103, (sN i).length) := by show zS L (17 + 2 * i) = _; unfold zS; rw [if_neg (by omega), if_neg (by omega), if_neg (by omega), if_neg (by omega), if_pos (by omega), if_neg (by omega), show (17 + 2 * i - 16) / 2 = i by omega]
theorem z_S63 : mS (zH S L) 63 = (100, L) := rfl
theorem z_I2 {k : Nat} (h : k < 11) : mI (zH S L) (2 + k) 1 = nI k := by show zI S (2 + k) 1 = _; unfold zI; rw [if_pos (by omega), if_pos rfl, show 2 + k - 2 = k by omega]
theorem z_I13 (j : Nat) : mI (zH S L) 13 j = nI (if j = 10 then 0 else j + 1) := rfl
theorem z_I14 (j : Nat) : mI (zH S L) 14 j = nI (48 + j / 10) := rfl
theorem z_I15 (j : Nat) : mI (zH S L) 15 j = nI (48 + j % 10) := rfl
theorem z_Is {i : Nat} (h : i < 16) : mI (zH S L) (16 + 2 * i) 1 = nI 0 := by show zI S (16 + 2 * i) 1 = _; unfold zI; rw [if_neg (by omega), if_neg (by omega), if_neg (by omega), if_neg (by omega), if_pos (by omega), if_pos (by omega)]
theorem z_Iv {i : Nat} (h : i < 16) (j : Nat) : mI (zH S L) (17 + 2 * i) j = nI ((sN i).getD j 0) := by show zI S (17 + 2 * i) j = _; unfold zI; rw [if_neg (by omega), if_neg (by omega), if_neg (by omega), if_neg (by omega), if_pos (by omega), if_neg (by omega), show (17 + 2 * i - 16) / 2 = i by omega]
theorem z_I63 (j : Nat) : mI (zH S L) 63 j = S j := rfl
theorem z_R1 {k : Nat} (h : k < 11) : mR (zH S L) 1 k = 2 + k := by show zR 1 k = _; unfold zR; rw [if_pos rfl, if_pos h]
theorem z_R2 {k : Nat} (h : k < 11) : mR (zH S L) (2 + k) 0 = 16 + 2 * k := by show zR (2 + k) 0 = _; unfold zR; rw [if_neg (by omega), if_pos (by omega), if_pos rfl, show 2 + k - 2 = k by omega]
theorem z_Rs {i : Nat} (h : i < 16) : mR (zH S L) (16 + 2 * i) 0 = 17 + 2 * i := by show zR (16 + 2 * i) 0 = _; unfold zR; rw [if_neg (by omega), if_neg (by omega), if_pos (by omega), if_pos rfl]; omega
theorem z_sN {k : Nat} (h : k < 11) : sN k = frm k := by
  have : ∀ k, k < 11 → sN k = frm k := by decide +kernel
  exact this k h
theorem z_gD {l : List Nat} {i c : Nat} (h : l[i]? = some c) : nI (l.getD i 0) = nI c := by rw [List.getD_eq_getElem?_getD, h]; rfl
theorem z_st : stF (zH S L) ∧ stD (zH S L) ∧ stW (zH S L) ∧ mS (zH S L) 63 = (100, L) := by
  refine ⟨⟨z_S1, fun k hk => ⟨z_R1 hk, z_S2 hk, z_R2 hk, z_I2 hk, z_Ss (by omega), z_Rs (by omega), z_Is (by omega), by rw [z_Sv (by omega), z_sN hk], fun i c hc => ?_⟩, z_S13, fun k _ => z_I13 k⟩, ?_, ?_, z_S63⟩
  · rw [z_Iv (by omega), z_sN hk]; exact z_gD hc
  · exact ⟨rfl, rfl, rfl, rfl, fun r _ => ⟨z_I14 r, z_I15 r⟩⟩
  · intro q hq
    have hw : ∀ q ∈ wds, ∃ i, i < 16 ∧ q = (16 + 2 * i, sN i) := by
      simp only [wds, List.forall_mem_cons]
      exact ⟨⟨11, by decide, rfl⟩, ⟨12, by decide, rfl⟩, ⟨13, by decide, rfl⟩, ⟨14, by decide, rfl⟩, ⟨15, by decide, rfl⟩, fun _ h => absurd h List.not_mem_nil⟩
    obtain ⟨i, hi, rfl⟩ := hw q hq
    refine ⟨z_Ss hi, by show mR _ (16 + 2 * i) 0 = 16 + 2 * i + 1; rw [z_Rs hi]; omega, z_Is hi, ?_, fun j c hc => ?_⟩
    · show mS _ (16 + 2 * i + 1) = _
      rw [show 16 + 2 * i + 1 = 17 + 2 * i by omega]
      exact z_Sv hi
    · show mI _ (16 + 2 * i + 1) j = _
      rw [show 16 + 2 * i + 1 = 17 + 2 * i by omega, z_Iv hi]
      exact z_gD hc
theorem z_wf : wf (zH S L) := by
  refine ⟨Nat.le_refl 64, fun a j => ?_, fun a ha => ?_, fun a _ => ?_, rfl⟩
  · show zR a j < 64
    unfold zR
    split
    · split <;> omega
    · split
      · split <;> omega
      · split
        · split <;> omega
        · omega
  · have ha : 64 ≤ a := ha
    show zS L a = _
    unfold zS
    rw [if_neg (by omega), if_neg (by omega), if_neg (by omega), if_neg (by omega), if_neg (by omega), if_neg (by omega)]
  · show (zS L a).1 = 0 ∨ 20 ≤ (zS L a).1
    unfold zS
    split
    · exact Or.inr (by decide)
    · split
      · exact Or.inr (by decide)
      · split
        · exact Or.inr (by decide)
        · split
          · exact Or.inr (by decide)
          · split
            · split
              · exact Or.inr (by decide)
              · exact Or.inr (by show 20 ≤ 103; decide)
            · split
              · exact Or.inr (by show 20 ≤ 100; decide)
              · exact Or.inl rfl
end ZH
section ZA
variable {ac sm dT dO k9 b : Nat} {cm : Nat → Nat} {sq : Nat → Nat × Nat}
theorem zA_c {k : Nat} (h : k < 11) : zA ac sm dT dO k9 b cm sq (2 + k) = cm k := by unfold zA; rw [if_neg (by omega), if_pos (by omega), show 2 + k - 2 = k by omega]
theorem zA_s {i : Nat} (h : i < 16) : zA ac sm dT dO k9 b cm sq (16 + 2 * i) = (sq i).1 := by unfold zA; rw [if_neg (by omega), if_neg (by omega), if_neg (by omega), if_neg (by omega), if_neg (by omega), if_pos (by omega), if_pos (by omega), show (16 + 2 * i - 16) / 2 = i by omega]
theorem zA_v {i : Nat} (h : i < 16) : zA ac sm dT dO k9 b cm sq (17 + 2 * i) = (sq i).2 := by unfold zA; rw [if_neg (by omega), if_neg (by omega), if_neg (by omega), if_neg (by omega), if_neg (by omega), if_pos (by omega), if_neg (by omega), show (17 + 2 * i - 16) / 2 = i by omega]
end ZA
section ZO
variable {ad : Nat → Nat} {h : AH} {A : Nat → Prop} {U : State} {H : Heap} {k : Nat}
theorem sOk_n (e : mS h k = (0, 0)) : sOk ad h A U H k := by
  unfold sOk
  rw [e]
  exact ⟨fun z => by rcases z with z | z <;> exact absurd z (by decide), fun z => absurd z (by decide)⟩
theorem sOk_a {t n : Nat} (e : mS h k = (100 + t, n)) (hT : va_T (ty_ t) (ad k) n (ev ad h k t) A U H) : sOk ad h A U H k := by
  unfold sOk
  rw [e]
  refine ⟨fun z => by simp only at z; omega, fun _ => ?_⟩
  simp only [Nat.add_sub_cancel_left]
  exact hT
theorem sOk_s (e : mS h k = (20, 0)) (o : va_O RJ0 (ad k) A U H) (f0 : va_OF "java/lang/String" "value" "[B" (cv ad (.ref (mR h k 0))) (ad k) A U H) (f1 : va_OF "java/lang/String" "coder" "B" (.int (mI h k 1)) (ad k) A U H) : sOk ad h A U H k := by
  unfold sOk
  rw [e]
  refine ⟨fun _ => ⟨o, fun j q hq => ?_⟩, fun z => absurd z (by decide)⟩
  match j, hq with
  | 0, hq => cases hq; exact f0
  | 1, hq => cases hq; exact f1
  | n + 2, hq => simp [sFd] at hq
theorem sOk_c (e : mS h k = (21, 0)) (o : va_O RX1 (ad k) A U H) (f0 : va_OF "InterlockingBox$Command" "form" "Ljava/lang/String;" (cv ad (.ref (mR h k 0))) (ad k) A U H) (f1 : va_OF "java/lang/Enum" "ordinal" "I" (.int (mI h k 1)) (ad k) A U H) : sOk ad h A U H k := by
  unfold sOk
  rw [e]
  refine ⟨fun _ => ⟨o, fun j q hq => ?_⟩, fun z => absurd z (by decide)⟩
  match j, hq with
  | 0, hq => cases hq; exact f0
  | 1, hq => cases hq; exact f1
  | n + 2, hq => simp [sFd] at hq
theorem cv_p {a : Nat} (ha : a ≠ 0) : cv ad (.ref a) = .ref (ad a) := by
  show (if a = 0 then Value.null else .ref (ad a)) = _
  rw [if_neg ha]
end ZO
