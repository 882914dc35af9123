/-! PROGRAMS: the class reads them -/
/-- the commands' cells and texts, as they are from the start on -/
def stF (h : AH) : Prop := mS h 1 = (107, 11) ∧ (∀ k, k < 11 → mR h 1 k = 2 + k ∧ mS h (2 + k) = (21, 0) ∧ mR h (2 + k) 0 = 16 + 2 * k ∧ mI h (2 + k) 1 = nI k ∧ mS h (16 + 2 * k) = (20, 0) ∧ mR h (16 + 2 * k) 0 = 17 + 2 * k ∧ mI h (16 + 2 * k) 1 = nI 0 ∧ mS h (17 + 2 * k) = (103, (frm k).length) ∧ ∀ i c, (frm k)[i]? = some c → mI h (17 + 2 * k) i = nI c) ∧ mS h 13 = (100, 11) ∧ ∀ k, k < 11 → mI h 13 k = nI (if k = 10 then 0 else k + 1)
/-- only the program's stop, count, commands and numbers may have changed -/
def chq (h g : AH) : Prop := mN g = mN h ∧ mS g = mS h ∧ mL g = mL h ∧ (∀ a, a ≠ 589 → mR g a = mR h a) ∧ (∀ a, a ≠ 587 → ¬ (591 ≤ a ∧ a < 604) → mI g a = mI h a) ∧ ∀ j, j ≠ 4 → j ≠ 5 → mI g 587 j = mI h 587 j
section PA2
variable {h g h0 : AH} {p w s : Nat} {X : BG} {T : List Nat} {K : Int32 → AH → Prop}
theorem chq.rf (h : AH) : chq h h := ⟨rfl, rfl, rfl, fun _ _ => rfl, fun _ _ _ => rfl, fun _ _ _ => rfl⟩
theorem chq.tr {k : AH} (c : chq h g) (d : chq g k) : chq h k := ⟨d.1.trans c.1, d.2.1.trans c.2.1, d.2.2.1.trans c.2.2.1, fun a ha => (d.2.2.2.1 a ha).trans (c.2.2.2.1 a ha), fun a h1 h2 => (d.2.2.2.2.1 a h1 h2).trans (c.2.2.2.2.1 a h1 h2), fun j h1 h2 => (d.2.2.2.2.2 j h1 h2).trans (c.2.2.2.2.2 j h1 h2)⟩
theorem chq.s5 (v : Int32) : chq h (uI h 587 5 v) := ⟨rfl, rfl, rfl, fun _ _ => rfl, fun a h1 _ => mI_o h1, fun j _ h2 => by rw [mI_uI, if_neg (fun z => h2 z.2)]⟩
theorem chq.s4 (v : Int32) : chq h (uI h 587 4 v) := ⟨rfl, rfl, rfl, fun _ _ => rfl, fun a h1 _ => mI_o h1, fun j h1 _ => by rw [mI_uI, if_neg (fun z => h1 z.2)]⟩
theorem chq.nr {c : Nat} (hc : c < 13) (j : Nat) (v : Int32) : chq h (uI h (591 + c) j v) := ⟨rfl, rfl, rfl, fun _ _ => rfl, fun a _ h2 => mI_o (by omega), fun j _ _ => by rw [mI_o (by omega)]⟩
theorem chq.cm (j : Nat) (v : Nat) : chq h (uR h 589 j v) := ⟨rfl, rfl, rfl, fun a ha => mR_o ha, fun _ _ _ => rfl, fun _ _ _ => rfl⟩
theorem chq.sa (c : chq h g) {a : Nat} (ha : a < 587 ∨ 604 ≤ a ∨ a = 588 ∨ a = 590) : sa h g a := ⟨by rw [c.2.1], c.2.2.2.2.1 a (by omega) (by omega), c.2.2.2.1 a (by omega), by rw [c.2.2.1]⟩
theorem chq.fcl (c : chq h g) : fcl h g := ⟨Nat.le_of_eq c.1.symm, Or.inl (by rw [(c.sa (a := 604) (by omega)).2.2.1]), fun a ha => c.sa (by omega)⟩
theorem RBp.prg (r : RBp h p X) (c : chq h g) : RBp g p X := by
  have hs := r.sR
  obtain ⟨r1, r2, r3, r4, r5, r6, r7, r8⟩ := r
  refine ⟨?_, r2.sm (fun q hq => c.sa (by omega)), r3.sm (fun q h1 h2 => c.sa (by omega)), r4.sm (fun q hq => c.sa (by omega)), r5.sm (fun q hq => c.sa (by omega)), ?_, r7.sm (Nat.le_of_eq c.1.symm) (fun q hq => c.sa (by omega)), r8.sm (c.sa (a := 64) (by omega)).2.1⟩
  · unfold sB0
    rw [c.2.1, c.2.2.2.1 64 (by omega), c.2.2.2.1 194 (by omega), c.2.2.2.1 195 (by omega), c.2.2.2.1 583 (by omega), c.2.2.2.1 587 (by omega), c.2.2.2.1 590 (by omega)]
    exact r1
  · unfold pgO
    rw [c.2.2.2.2.2 1 (by omega) (by omega), c.2.2.2.2.1 588 (by omega) (by omega)]
    exact r6
theorem stF.sm (t : stF h) (e : ∀ a, a < 64 → sa h g a) : stF g := by
  obtain ⟨t1, t2, t3, t4⟩ := t
  refine ⟨by rw [(e 1 (by omega)).1]; exact t1, fun k hk => ?_, by rw [(e 13 (by omega)).1]; exact t3, fun k hk => by rw [(e 13 (by omega)).2.1]; exact t4 k hk⟩
  rw [(e 1 (by omega)).2.2.1, (e (2 + k) (by omega)).1, (e (2 + k) (by omega)).2.2.1, (e (2 + k) (by omega)).2.1, (e (16 + 2 * k) (by omega)).1, (e (16 + 2 * k) (by omega)).2.2.1, (e (16 + 2 * k) (by omega)).2.1, (e (17 + 2 * k) (by omega)).1, (e (17 + 2 * k) (by omega)).2.1]
  exact t2 k hk
theorem stF.fcl (t : stF h) (f : fcl h g) : stF g := t.sm (fun a ha => f.2.2 a (Or.inl ha))
theorem stF.chq (t : stF h) (c : chq h g) : stF g := t.fcl c.fcl
theorem getD_s {i c : Nat} (h : T[i]? = some c) : T.getD i 0 = c := by
  rw [List.getD_eq_getElem?_getD, h]
  rfl
theorem c_isDigit (r : RBp h p X) {i : Nat} (hi : i < 2 ^ 31) (k : K (if isDg (bF X) i = true then nI 1 else nI 0) h) : wX5_isDigit 587 (nI i) h K := by
  obtain ⟨b1, b2, b3⟩ := r.2.2.2.2.2.1
  have s := r.1
  unfold wX5_isDigit
  rw [b1, s.p0, s.pl0, nI_clamp hi]
  unfold isDg at k
  refine ⟨fun z => absurd z (by rw [lt0_f hi]; exact id), fun _ => ⟨s.po, fun z => ?_, fun z => ?_⟩⟩
  · rw [nI_leI (by omega) hi] at z
    rw [List.getElem?_eq_none z] at k
    exact k
  · rw [nI_leI (by omega) hi] at z
    have hc : (bF X)[i]? = some (bF X)[i] := List.getElem?_eq_getElem (by omega)
    obtain ⟨c1, c2⟩ := b3 i _ hc
    rw [hc] at k
    simp only at k
    rw [c1, nI_ltI (by omega) (by decide), nI_ltI (by decide) (by omega)]
    refine ⟨s.pa0, vp_in_nI (by omega) (by decide), fun z1 => ?_, fun z1 => ⟨fun z2 => ?_, fun z2 => ?_⟩⟩
    · rw [if_neg (by simp; omega)] at k; exact k
    · rw [if_neg (by simp; omega)] at k; exact k
    · rw [if_pos (by simp; omega)] at k; exact k
theorem c_isAt (r : RBp h p X) {i c : Nat} (hi : i < 2 ^ 31) (hc : c < 65536) (k : K (if (bF X)[i]? = some c then nI 1 else nI 0) h) : wX5_isAt 587 (nI i) (nI c) h K := by
  obtain ⟨b1, b2, b3⟩ := r.2.2.2.2.2.1
  have s := r.1
  unfold wX5_isAt
  rw [b1, s.p0, s.pl0, nI_clamp hi]
  refine ⟨fun z => absurd z (by rw [lt0_f hi]; exact id), fun _ => ⟨s.po, fun z => ?_, fun z => ?_⟩⟩
  · rw [nI_leI (by omega) hi] at z
    rw [List.getElem?_eq_none z, if_neg (by simp)] at k
    exact k
  · rw [nI_leI (by omega) hi] at z
    have hc2 : (bF X)[i]? = some (bF X)[i] := List.getElem?_eq_getElem (by omega)
    obtain ⟨c1, c2⟩ := b3 i _ hc2
    rw [hc2] at k
    rw [c1, nI_eq (by omega) (by omega)]
    refine ⟨s.pa0, vp_in_nI (by omega) (by decide), fun z1 => ?_, fun z1 => ?_⟩
    · rw [if_neg (fun y => z1 (by injection y))] at k; exact k
    · rw [if_pos (by rw [z1])] at k; exact k
theorem digits_l (r : RBp h p X) {i m : Nat} (hi : i < 1000) (hm : m ≤ 3) : ∀ j x, x + j = m → K (nI (x + dgc (bF X) (i + x) j)) h → wX5_digitsAt_L5 K (j + 1) 587 (nI i) (nI m) (nI x) (nI x) h := by
  have s := r.1
  intro j
  induction j with
  | zero =>
    intro x hx k
    rw [wX5_digitsAt_L5]; dsimp only
    exact ⟨fun _ => k, fun z => absurd (nI_le (by omega) (by omega)) z⟩
  | succ j ih =>
    intro x hx k
    rw [wX5_digitsAt_L5]; dsimp only
    rw [nI_add, nI_add]
    refine ⟨fun z => absurd z (nI_ge (by omega) (by omega)), fun _ => ⟨s.po, c_isDigit r (by omega) ?_⟩⟩
    rw [dgc] at k
    by_cases e : isDg (bF X) (i + x) = true
    · rw [if_pos e] at k ⊢
      refine ⟨fun z => absurd z (by rw [n1_ne]; exact id), fun _ => ih (x + 1) (by omega) ?_⟩
      rw [show x + 1 + dgc (bF X) (i + (x + 1)) j = x + (1 + dgc (bF X) (i + x + 1) j) by rw [show i + (x + 1) = i + x + 1 from rfl]; omega]
      exact k
    · rw [if_neg e] at k ⊢
      exact ⟨fun _ => k, fun z => absurd rfl z⟩
theorem c_digitsAt (r : RBp h p X) {i m : Nat} (hi : i < 1000) (hm : m ≤ 3) (k : K (nI (dgc (bF X) i m)) h) : wX5_digitsAt 587 (nI i) (nI m) h K := by
  refine ⟨m + 1, digits_l r hi hm m 0 (by omega) ?_⟩
  rw [Nat.zero_add, Nat.add_zero]
  exact k
theorem note_l (r : RBp h p X) {i d f : Nat} (hi : i < 1000) (hd : d ≤ 3) (hdg : ∀ j, j < d → isDg (bF X) (i + j) = true) {K : AH → Prop} {C : Nat → Int32 → Int32 → AH → Prop} : ∀ j x v, x + j = d → C 587 (nI f) (nI (vl (bF X) (i + x) j v)) h → wX5_noteNumber_L6 K C (j + 1) 587 (nI f) (nI i) (nI d) (nI v) (nI x) h := by
  obtain ⟨b1, b2, b3⟩ := r.2.2.2.2.2.1
  have s := r.1
  intro j
  induction j with
  | zero =>
    intro x v hx k
    rw [wX5_noteNumber_L6]; dsimp only
    exact ⟨fun _ => k, fun z => absurd (nI_le (by omega) (by omega)) z⟩
  | succ j ih =>
    intro x v hx k
    have hdx := hdg x (by omega)
    have hlt := dg_lt hdx
    have hc : (bF X)[i + x]? = some (bF X)[i + x] := List.getElem?_eq_getElem hlt
    have hge : 48 ≤ (bF X)[i + x] := by
      unfold isDg at hdx
      rw [hc] at hdx
      simp only [Bool.and_eq_true, decide_eq_true_eq] at hdx
      exact hdx.1
    rw [wX5_noteNumber_L6]; dsimp only
    rw [nI_add, nI_add]
    refine ⟨fun z => absurd z (nI_ge (by omega) (by omega)), fun _ => ⟨s.po, c_isDigit r (by omega) ?_⟩⟩
    rw [if_pos hdx]
    refine ⟨fun z => absurd z (by rw [n1_ne]; exact id), fun _ => ⟨s.po, ?_⟩⟩
    rw [s.p0, s.pl0, nI_clamp (by omega), (b3 _ _ hc).1]
    refine ⟨s.pa0, vp_in_nI (by omega) (by decide), fun v8 e8 => ?_⟩
    rw [pk_mul, nI_sub hge, nI_add] at e8
    rw [e8]
    refine ih (x + 1) _ (by omega) ?_
    rw [vl, getD_s hc] at k
    exact k
theorem c_note (r : RBp h p X) {i d f cnt : Nat} (hi : i < 1000) (hd : d ≤ 3) (hf : f < 3) (hc : cnt < 13) (h4 : mI h 587 4 = nI cnt) (hdg : ∀ j, j < d → isDg (bF X) (i + j) = true) {K : AH → Prop} (k : K (uI h (591 + cnt) f (nI (vl (bF X) i d 0)))) : wX5_noteNumber 587 (nI f) (nI i) (nI d) h K := by
  have s := r.1
  refine ⟨d + 1, note_l r hi hd hdg d 0 0 (by omega) ?_⟩
  rw [Nat.add_zero, h4, s.p3, s.pl3, nI_clamp (by omega), s.pr hc, s.prl hc, nI_clamp (by omega)]
  refine ⟨fun z => absurd z (nI_ge hf (by decide)), fun _ => ⟨s.po, fun z => absurd z (nI_ge hc (by decide)), fun _ => ⟨s.pa3, by decide, vp_in_nI hc (by decide), s.pra hc, by show 64 ≤ 591 + cnt; omega, vp_in_nI hf (by decide), fun g e => ?_⟩⟩⟩
  rw [e]
  exact k
def wld (F : List Nat) : Nat := F.countP (fun c => decide (c = 35 ∨ c = 42))
theorem ntw_c {q v : Nat} {ns : List Nat} {row : Nat → Int32} : ntw (q + 1) ns (fun j => if j = q then nI v else row j) = ntw q (v :: ns) row := by
  funext j
  unfold ntw
  by_cases z : j = q
  · subst z
    rw [if_neg (by omega), if_pos (Nat.le_refl _), Nat.sub_self]
    simp
  · by_cases z2 : q ≤ j
    · rw [if_pos (by omega), if_pos z2, show j - q = (j - (q + 1)) + 1 by omega, List.getElem?_cons_succ]
      simp [z]
    · rw [if_neg (by omega), if_neg z2]
      exact if_neg z
/-- what reading a form may change -/
def mtK (g : AH) (T : List Nat) (F : List Nat) (i f st cnt : Nat) (K : Int32 → AH → Prop) : Prop := ∀ g', chq g g' → mI g' 587 4 = nI cnt → mI g' 587 5 = nI (max st (mtF T F i).1) → (∀ c, c ≠ 591 + cnt → c ≠ 587 → mI g' c = mI g c) → mI g' (591 + cnt) = ntw f (mtF T F i).2.2 (mI g (591 + cnt)) → mR g' = mR g → K (if (mtF T F i).2.1 = true then nI (mtF T F i).1 else -1) g'
theorem c_str (t : stF h) {k : Nat} (hk : k < 11) {K : Int32 → AH → Prop} (kk : K (nI (frm k).length) h) : wJ0_length_8abf5 (16 + 2 * k) h K := by
  obtain ⟨-, t2, -⟩ := t
  obtain ⟨k1, k2, k3, k4, k5, k6, k7, k8, k9⟩ := t2 k hk
  have hl : (frm k).length < 200 := by
    have : k = 0 ∨ k = 1 ∨ k = 2 ∨ k = 3 ∨ k = 4 ∨ k = 5 ∨ k = 6 ∨ k = 7 ∨ k = 8 ∨ k = 9 ∨ k = 10 := by omega
    rcases this with rfl | rfl | rfl | rfl | rfl | rfl | rfl | rfl | rfl | rfl | rfl <;> decide
  unfold wJ0_length_8abf5 wJ0_coder_7d493
  rw [k6, k7]
  refine ⟨k5, by show 16 + 2 * k < 64; omega, congrArg Prod.fst k8, fun z => absurd z (by rw [n1_ne]; exact id), fun _ => ⟨k5, by show 16 + 2 * k < 64; omega, by decide, ?_⟩⟩
  have : ln h (17 + 2 * k) = (frm k).length := congrArg Prod.snd k8
  rw [this]
  dsimp only
  rw [(shl0 _ hl).2]
  exact kk
theorem c_sgn (t : stF h) {k : Nat} (hk : k < 11) {x c : Nat} (hx : (frm k)[x]? = some c) (hc : c < 128) {K : Int32 → AH → Prop} (kk : K (nI c) h) : wJ0_charAt_5068e (16 + 2 * k) (nI x) h K := by
  obtain ⟨-, t2, -⟩ := t
  obtain ⟨k1, k2, k3, k4, k5, k6, k7, k8, k9⟩ := t2 k hk
  have hx2 := (List.getElem?_eq_some_iff.mp hx).1
  have hl : (frm k).length < 200 := by
    have : k = 0 ∨ k = 1 ∨ k = 2 ∨ k = 3 ∨ k = 4 ∨ k = 5 ∨ k = 6 ∨ k = 7 ∨ k = 8 ∨ k = 9 ∨ k = 10 := by omega
    rcases this with rfl | rfl | rfl | rfl | rfl | rfl | rfl | rfl | rfl | rfl | rfl <;> decide
  have l1 : ln h (17 + 2 * k) = (frm k).length := congrArg Prod.snd k8
  unfold wJ0_charAt_5068e wJ0_isLatin1_aae02 wJ1_charAt_3b067 wJ0_checkIndex_df160
  dsimp only
  rw [k6, k7, l1]
  have z1 : 16 + 2 * k < nZ := by show 16 + 2 * k < 64; omega
  refine ⟨k5, z1, fun z => absurd z (by rw [n1_ne]; exact id), fun _ => ⟨k5, z1, fun z => absurd rfl z, fun _ => ⟨fun z => absurd z (by rw [n1_ne]; exact id), fun _ => ⟨k5, z1, congrArg Prod.fst k8, fun k1 _ => ?_⟩⟩⟩⟩
  unfold wJ3_checkIndex_8e157
  refine ⟨fun z => absurd z (by rw [lt0_f (by omega)]; exact id), fun _ => ⟨fun _ => ⟨congrArg Prod.fst k8, ?_, ?_, ?_⟩, fun z => absurd (nI_lt hx2 (by omega)) z⟩⟩
  · rw [l1]; exact vp_in_nI hx2 (by omega)
  · rw [nI_clamp (by omega), k9 x c hx, (byt_c c hc).2.2.2]; exact (ch_ok c hc).1
  · rw [nI_clamp (by omega), k9 x c hx, (byt_c c hc).2.2.2]; exact ⟨(ch_ok c hc).1, kk⟩
theorem mt_step {T : List Nat} {c i : Nat} {F : List Nat} : mtF T (c :: F) i = if tkn T c i = 0 then (i, false, nts T c i) else ((mtF T F (i + tkn T c i)).1, (mtF T F (i + tkn T c i)).2.1, nts T c i ++ (mtF T F (i + tkn T c i)).2.2) := rfl
theorem mx_I {a b : Nat} (ha : a < 2 ^ 31) (hb : b < 2 ^ 31) : (if nI a < nI b then nI b else nI a) = nI (max a b) := by
  by_cases u : a < b
  · rw [if_pos (nI_lt u hb), Nat.max_eq_right (by omega)]
  · rw [if_neg (by rw [nI_ltI ha hb]; exact u), Nat.max_eq_left (by omega)]
theorem ntw_d {q : Nat} {ns : List Nat} {row : Nat → Int32} : ∀ l : List Nat, ntw (q + l.length) ns (ntw q l row) = ntw q (l ++ ns) row := by
  intro l
  funext j
  unfold ntw
  by_cases z : q ≤ j
  · rw [if_pos z]
    by_cases z2 : q + l.length ≤ j
    · rw [if_pos z2, List.getElem?_append_right (by omega), show j - q - l.length = j - (q + l.length) by omega]
      cases ns[j - (q + l.length)]? with
      | some v => rw [if_pos z]
      | none => simp only; rw [if_pos z, List.getElem?_eq_none (by omega)]
    · rw [if_neg z2, if_pos z, List.getElem?_append_left (by omega)]
  · rw [if_neg z, if_neg (by omega), if_neg z]
theorem match_l (k : Nat) (hk : k < 11) {cnt : Nat} (hcnt : cnt < 13) : ∀ (F : List Nat) (x i f st : Nat) (g : AH) (K : Int32 → AH → Prop), (∀ y c, F[y]? = some c → (frm k)[x + y]? = some c ∧ c < 128) → x + F.length = (frm k).length → f + wld F ≤ 3 → i ≤ (bF X).length → st ≤ 60 → i ≤ st → RBp g p X → stF g → mI g 587 4 = nI cnt → mI g 587 5 = nI st → mtK g (bF X) F i f st cnt K → wX5_match_L8 K (F.length + 1) 587 (16 + 2 * k) (nI i) (nI f) (nI x) g := by
  have hz1 : 16 + 2 * k < nZ := by show 16 + 2 * k < 64; omega
  have hfl : (frm k).length < 200 := by
    have : k = 0 ∨ k = 1 ∨ k = 2 ∨ k = 3 ∨ k = 4 ∨ k = 5 ∨ k = 6 ∨ k = 7 ∨ k = 8 ∨ k = 9 ∨ k = 10 := by omega
    rcases this with rfl | rfl | rfl | rfl | rfl | rfl | rfl | rfl | rfl | rfl | rfl <;> decide
  intro F
  induction F with
  | nil =>
    intro x i f st g K _ hx _ hi hst his r t h4 h5 kk
    have hm := (t.2.1 k hk).2.2.2.2.1
    rw [wX5_match_L8]; dsimp only
    refine ⟨hm, hz1, c_str t hk ⟨fun _ => ?_, fun z => absurd (nI_le (by simp only [List.length_nil] at hx; omega) (by omega)) z⟩⟩
    have := kk g (chq.rf g) h4 (by rw [h5]; show nI st = nI (max st i); rw [Nat.max_eq_left his]) (fun _ _ _ => rfl) (ntw_0 _ _).symm rfl
    exact this
  | cons c F ih =>
    intro x i f st g K hF hx hw hi hst his r t h4 h5 kk
    have hm := (t.2.1 k hk).2.2.2.2.1
    have s := r.1
    obtain ⟨hc1, hc⟩ := hF 0 c rfl
    rw [Nat.add_zero] at hc1
    simp only [List.length_cons] at hx
    obtain ⟨ht1, ht3⟩ := tkn_in (T := bF X) (c := c) hi
    have hi60 := r.2.2.2.2.2.1.2.1
    have j100 : ∀ (g1 : AH) (f1 : Nat), chq g g1 → mI g1 587 = mI g 587 → (∀ c, c ≠ 591 + cnt → mI g1 c = mI g c) → mI g1 (591 + cnt) = ntw f (nts (bF X) c i) (mI g (591 + cnt)) → mR g1 = mR g → f1 = f + (nts (bF X) c i).length → f1 + wld F ≤ 3 → wX5_match_J100 K (wX5_match_L8 K (F.length + 1)) 587 (16 + 2 * k) (nI i) (nI f1) (nI x) (nI (tkn (bF X) c i)) g1 := fun g1 f1 q1 e1 e2 e3 e4 e5 e6 => by
      have r1 := r.prg q1
      unfold wX5_match_J100
      rw [e1, h5, nI_add, mx_I (by omega) (by omega), nI_add]
      refine ⟨r1.1.po, fun h15 e15 => ?_⟩
      have q15 : chq g1 h15 := by rw [e15]; exact chq.s5 _
      have r15 := r1.prg q15
      have f4 : mI h15 587 4 = nI cnt := by rw [e15, mI_uI, if_neg (by omega), e1]; exact h4
      have f5 : mI h15 587 5 = nI (max st (i + tkn (bF X) c i)) := by rw [e15, mI_uI, if_pos ⟨rfl, rfl⟩]
      have fo : ∀ c, c ≠ 587 → mI h15 c = mI g1 c := fun c hc => by rw [e15, mI_o hc]
      have fR : mR h15 = mR g := by rw [e15, mR_uI]; exact e4
      refine ⟨fun z => ?_, fun z => ?_⟩
      · rw [nI_z (by omega)] at z
        refine ih (x + 1) (i + tkn (bF X) c i) f1 (max st (i + tkn (bF X) c i)) h15 K (fun y d hd => ?_) (by omega) e6 ht1 (Nat.max_le.mpr ⟨hst, by omega⟩) (Nat.le_max_right _ _) r15 (t.chq (q1.tr q15)) f4 f5 (fun g' a1 a2 a3 a4 a5 a6 => ?_)
        · have := hF (y + 1) d (by rw [List.getElem?_cons_succ]; exact hd)
          rw [show x + (y + 1) = x + 1 + y by omega] at this
          exact this
        · have hge := mt_ge (T := bF X) F (i + tkn (bF X) c i)
          have := kk g' ((q1.tr q15).tr a1) a2 (by
            rw [a3, mt_step, if_neg z]
            show nI (max (max st (i + tkn (bF X) c i)) (mtF (bF X) F (i + tkn (bF X) c i)).1) = nI (max st (mtF (bF X) F (i + tkn (bF X) c i)).1)
            congr 1
            omega) (fun d h1 h2 => by rw [a4 d h1 h2, fo d h2, e2 d h1]) (by
            rw [a5, mt_step, if_neg z, fo _ (by omega), e3, e5, ntw_d]) (by rw [a6, fR])
          rw [mt_step, if_neg z] at this
          exact this
      · rw [nI_z (by omega)] at z
        have := kk h15 (q1.tr q15) f4 (by
          rw [f5, mt_step, if_pos z, z]
          rfl) (fun d h1 h2 => by rw [fo d h2, e2 d h1]) (by rw [fo _ (by omega), e3, mt_step, if_pos z]) fR
        rw [mt_step, if_pos z] at this
        exact this
    have j72 : wX5_match_J72 K (wX5_match_L8 K (F.length + 1)) 587 (16 + 2 * k) (nI i) (nI f) (nI x) (nI c) (nI (tkn (bF X) c i)) g := by
      have wild : (c = 35 ∨ c = 42) → wX5_match_J88 K (wX5_match_L8 K (F.length + 1)) 587 (16 + 2 * k) (nI i) (nI f) (nI x) (nI (tkn (bF X) c i)) g := fun hcw => by
        have hwl : wld (c :: F) = wld F + 1 := by
          unfold wld
          rw [List.countP_cons, if_pos (decide_eq_true hcw)]
        have en : nts (bF X) c i = [vl (bF X) i (tkn (bF X) c i) 0] := by unfold nts; rw [if_pos hcw]
        unfold wX5_match_J88
        refine ⟨s.po, c_note r (by omega) ht3 (by omega) hcnt h4 (fun j hj => ?_) ?_⟩
        · unfold tkn at hj
          rcases hcw with rfl | rfl
          · rw [if_pos rfl] at hj; exact dgc_is 1 i j hj
          · rw [if_neg (by decide), if_pos rfl] at hj; exact dgc_is 3 i j hj
        · rw [nI_add]
          refine j100 _ (f + 1) (chq.nr hcnt _ _) (mI_o (by omega)) (fun d hd => mI_o hd) ?_ rfl (by rw [en]; rfl) (by omega)
          rw [en]
          funext j
          rw [mI_uI]
          unfold ntw
          by_cases z : j = f
          · subst z
            rw [if_pos ⟨rfl, rfl⟩, if_pos (Nat.le_refl _), Nat.sub_self]
            rfl
          · rw [if_neg (fun y => z y.2)]
            by_cases z2 : f ≤ j
            · rw [if_pos z2, show j - f = (j - f - 1) + 1 by omega, List.getElem?_cons_succ]
              rfl
            · rw [if_neg z2]
      unfold wX5_match_J72
      rw [nI_eq (a := c) (b := 35) (by omega) (by decide), nI_eq (a := c) (b := 42) (by omega) (by decide)]
      refine ⟨fun z => wild (Or.inl z), fun z => ⟨fun z2 => ?_, fun z2 => wild (Or.inr z2)⟩⟩
      have en : nts (bF X) c i = [] := by unfold nts; rw [if_neg (fun y => y.elim z z2)]
      have hwl : wld (c :: F) = wld F := by
        unfold wld
        rw [List.countP_cons, if_neg (by simp [z, z2])]
        rfl
      exact j100 g f (chq.rf g) rfl (fun _ _ => rfl) (by rw [en, ntw_0]) rfl (by rw [en]; rfl) (by omega)
    rw [wX5_match_L8]; dsimp only
    refine ⟨hm, hz1, c_str t hk ⟨fun z => absurd z (nI_ge (by omega) (by omega)), fun _ => ⟨hm, hz1, c_sgn t hk hc1 hc ?_⟩⟩⟩
    rw [nI_eq (a := c) (b := 35) (by omega) (by decide), nI_eq (a := c) (b := 42) (by omega) (by decide)]
    refine ⟨fun z => ⟨fun z2 => ⟨s.po, c_isAt r (by omega) (by omega) ?_⟩, fun z2 => ⟨s.po, c_digitsAt r (by omega) (by decide) ?_⟩⟩, fun z => ⟨s.po, c_digitsAt r (by omega) (by decide) ?_⟩⟩
    · unfold tkn at j72
      rw [if_neg z, if_neg z2] at j72
      by_cases e : (bF X)[i]? = some c
      · rw [if_pos e] at j72 ⊢
        exact ⟨fun y => absurd y (by rw [n1_ne]; exact id), fun _ => j72⟩
      · rw [if_neg e] at j72 ⊢
        exact ⟨fun _ => j72, fun y => absurd rfl y⟩
    · unfold tkn at j72
      rw [if_neg z, if_pos z2] at j72
      exact j72
    · unfold tkn at j72
      rw [if_pos z] at j72
      exact j72
end PA2
