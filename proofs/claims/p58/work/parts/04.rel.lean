/-! RELATION OF THE ABSTRACT HEAP TO THE MACHINE'S -/
def wf (h : AH) : Prop := nZ ≤ mN h ∧ (∀ a j, mR h a j < mN h) ∧ (∀ a, mN h ≤ a → mS h a = (0, 0)) ∧ (∀ a, a < nZ → (mS h a).1 = 0 ∨ 20 ≤ (mS h a).1) ∧ mS h 0 = (0, 0)
def sameS (h h' : AH) : Prop := ∀ k, k < nZ → mS h' k = mS h k ∧ mI h' k = mI h k ∧ mR h' k = mR h k ∧ mL h' k = mL h k
theorem sameS.rf (h : AH) : sameS h h := fun _ _ => ⟨rfl, rfl, rfl, rfl⟩
theorem sameS.tr {a b c : AH} (h : sameS a b) (g : sameS b c) : sameS a c := fun k hk => ⟨(g k hk).1.trans (h k hk).1, (g k hk).2.1.trans (h k hk).2.1, (g k hk).2.2.1.trans (h k hk).2.2.1, (g k hk).2.2.2.trans (h k hk).2.2.2⟩
theorem cv_eq {ad ad' : Nat → Nat} {h : AH} (hd : ∀ k, k < mN h → ad' k = ad k) {v : Value} (hv : vok h v) : cv ad' v = cv ad v := by
  cases v <;> simp only [cv]
  next a => rw [hd a hv]
theorem sOk.re {ad ad' : Nat → Nat} {h h' : AH} {A : Nat → Prop} {U : State} {H : Heap} {k : Nat} (hs : sOk ad h A U H k) (hk : k < nZ) (w : wf h) (hd : ∀ k, k < mN h → ad' k = ad k) (hh : sameS h h') : sOk ad' h' A U H k := by
  obtain ⟨e1, e2, e3, e4⟩ := hh k hk
  have ek : ad' k = ad k := hd k (Nat.lt_of_lt_of_le hk w.1)
  have ef : ∀ j c, fv ad' h' k j c = fv ad h k j c := by
    intro j c
    unfold fv
    split
    · rw [e2]
    · rw [e3]; exact cv_eq hd (w.2.1 k j)
    · rw [e4]
  have ee : ∀ t, ev ad' h' k t = ev ad h k t := by
    intro t
    funext j
    unfold ev
    rw [e2, e3, e4, cv_eq (h := h) hd (v := .ref (mR h k j)) (w.2.1 k j)]
  unfold sOk
  simp only [e1, ek, ef, ee]
  exact hs
theorem sOk.go {ad : Nat → Nat} {h : AH} {A B : Nat → Prop} {u U : State} {H H1 : Heap} {k : Nat} (hs : sOk ad h A u H k) (hvm : u.vm.Alike U.vm) (hq : ∀ a : Nat, a < H.size → ¬ A a → H1[a]? = H[a]?) (hAB : ∀ q, B q → A q) : sOk ad h B U H1 k := by
  refine ⟨fun h1 => ⟨(((hs.1 h1).1.moved hvm).kept hq).narrow hAB, fun j q hj => ((((hs.1 h1).2 j q hj).moved hvm).kept hq).narrow hAB⟩, fun h1 => (((hs.2 h1).moved hvm).kept hq).narrow hAB⟩
theorem Sf.re {ad ad' : Nat → Nat} {h h' : AH} {A : Nat → Prop} {U : State} {H : Heap} (hs : Sf ad h A U H) (w : wf h) (hd : ∀ k, k < mN h → ad' k = ad k) (hh : sameS h h') : Sf ad' h' A U H := by
  obtain ⟨s1, s2, s3, s4, s5, s6, s7, s8, s9, s10, s11, s12, s14, k, hk, s13⟩ := hs
  have e : ∀ k, k < nZ → ad' k = ad k := fun k hk => hd k (Nat.lt_of_lt_of_le hk w.1)
  refine ⟨fun k hk => (s1 k hk).re hk w hd hh, s2, s3, fun q hq => ?_, fun q hq => ?_, s6, s7, s8, s9, s10, s11, s12, s14, k, hk, ?_⟩
  · have h1 := s4 q hq
    have h2 : q.2.2.2.2.2 < nZ := (show ∀ q ∈ zsl, q.2.2.2.2.2 < nZ by decide +kernel) q hq
    rw [e _ h2]
    exact h1
  · have h1 := s5 q hq
    have h2 : q.2.2.2 < nZ := (show ∀ q ∈ stl, q.2.2.2 < nZ by decide +kernel) q hq
    rw [e _ h2]
    exact h1
  · have e9 : cv ad' (.ref k) = cv ad (.ref k) := by
      simp only [cv, e k (by rcases hk with rfl | rfl <;> decide)]
    rw [e9]
    exact s13
theorem Sf.go {ad : Nat → Nat} {h : AH} {A B : Nat → Prop} {u U : State} {H H1 : Heap} (hs : Sf ad h A u H) (hW : u.WarmedH U.vm) (hq : ∀ a : Nat, a < H.size → ¬ A a → H1[a]? = H[a]?) (hAB : ∀ q, B q → A q) : Sf ad h B U H1 := by
  obtain ⟨s1, s2, s3, s4, s5, s6, s7, s8, s9, s10, s11, s12, s14, k9, hk9, s13⟩ := hs
  have hvm := hW.alike
  exact ⟨fun k hk => (s1 k hk).go hvm hq hAB, ((s2.moved hvm).kept hq).narrow hAB, ((s3.moved hvm).kept hq).narrow hAB, fun q hq9 => (((s4 q hq9).moved hvm).kept hq).narrow hAB, fun q hq9 => (s5 q hq9).warm hW, fun q hq9 => by
    obtain ⟨sa, h9⟩ := s6 q hq9
    exact ⟨sa, h9.warm hW⟩, fun q hq9 => va_Nw.warmF hW (s7 q hq9), fun q hq9 => va_Nw.warmM hW (s8 q hq9), fun q hq9 => va_Nw.warmC hW (s9 q hq9), fun C hC => (s10 C hC).moved hvm, fun q hq9 => (s11 q hq9).moved hvm, fun y hy => va_Nw.warmD hW (s12 y hy), s14.moved hvm, k9, hk9, ((s13.moved hvm).kept hq).narrow hAB⟩
def Rel (D : va_G) (tc : Nat → ClassId) (A : Nat → Prop) (ad : Nat → Nat) (h : AH) (s : State) (H : Heap) (locs : List Loc) : Prop :=
  va_K D CL (tys tc) s ∧ va_P D CL (dyn tc ad h) H ∧ va_D A (dyn tc ad h) ∧ va_S A s.heap H locs ∧ Sf ad h A s s.heap ∧ (∀ q, s.heap.size ≤ q → A q) ∧ wf h
theorem dyn_get {tc : Nat → ClassId} {ad : Nat → Nat} {h : AH} {a : Nat} (hz : nZ ≤ a) (ha : a < mN h) : (dyn tc ad h)[a - nZ]? = some (ad a, ce_ tc ad h a) := by
  have h1 : a - nZ < mN h - nZ := by omega
  have h2 : nZ + (a - nZ) = a := by omega
  unfold dyn
  rw [List.getElem?_map, List.getElem?_range h1]
  simp only [Option.map_some, h2]
theorem dyn_at {tc : Nat → ClassId} {ad : Nat → Nat} {h : AH} {i : Nat} {q : Nat × va_E} (hq : (dyn tc ad h)[i]? = some q) : nZ + i < mN h ∧ q = (ad (nZ + i), ce_ tc ad h (nZ + i)) := by
  unfold dyn at hq
  rw [List.getElem?_map] at hq
  by_cases hi : i < mN h - nZ
  · rw [List.getElem?_range hi] at hq
    refine ⟨by omega, ?_⟩
    cases hq
    rfl
  · rw [List.getElem?_eq_none (by rw [List.length_range]; omega)] at hq
    cases hq
theorem dyn_set {tc : Nat → ClassId} {ad : Nat → Nat} {h h' : AH} {a : Nat} (hn : mN h' = mN h) (hz : nZ ≤ a) (ha : a < mN h) (hb : ∀ b, b ≠ a → ce_ tc ad h' b = ce_ tc ad h b) : (dyn tc ad h).set (a - nZ) (ad a, ce_ tc ad h' a) = dyn tc ad h' := by
  apply List.ext_getElem?
  intro i
  rw [List.getElem?_set]
  by_cases hi : a - nZ = i
  · subst hi
    rw [if_pos rfl, dyn_get hz (by rw [hn]; exact ha), if_pos (by unfold dyn; rw [List.length_map, List.length_range]; omega)]
  · rw [if_neg hi]
    unfold dyn
    rw [List.getElem?_map, List.getElem?_map, hn]
    by_cases h1 : i < mN h - nZ
    · rw [List.getElem?_range h1]
      simp only [Option.map_some]
      rw [hb (nZ + i) (by omega)]
    · rw [List.getElem?_eq_none (by rw [List.length_range]; omega)]
      rfl
theorem dyn_push {tc : Nat → ClassId} {ad ad' : Nat → Nat} {h h' : AH} (hz : nZ ≤ mN h) (hn : mN h' = mN h + 1) (hb : ∀ b, b < mN h → ad' b = ad b ∧ ce_ tc ad' h' b = ce_ tc ad h b) : dyn tc ad' h' = dyn tc ad h ++ [(ad' (mN h), ce_ tc ad' h' (mN h))] := by
  unfold dyn
  rw [hn, show mN h + 1 - nZ = (mN h - nZ) + 1 by omega, List.range_succ, List.map_append]
  congr 1
  · apply List.map_congr_left
    intro i hi
    have := List.mem_range.mp hi
    obtain ⟨e1, e2⟩ := hb (nZ + i) (by omega)
    rw [e1, e2]
  · simp only [List.map_cons, List.map_nil, show nZ + (mN h - nZ) = mN h by omega]
theorem wf.dynz {h : AH} (w : wf h) {a k n : Nat} (hs : mS h a = (k, n)) (hk : k ≠ 0) (hk2 : k < 20) : nZ ≤ a ∧ a < mN h := by
  refine ⟨Nat.le_of_not_lt fun z => ?_, Nat.lt_of_not_le fun z => ?_⟩
  · have := w.2.2.2.1 a z
    rw [hs] at this
    simp only at this
    omega
  · have := w.2.2.1 a z
    rw [hs] at this
    cases this
    exact hk rfl
theorem wf.lt {h : AH} (w : wf h) {a k n : Nat} (hs : mS h a = (k, n)) (hk : k ≠ 0) : a < mN h := by
  refine Nat.lt_of_not_le fun z => ?_
  have := w.2.2.1 a z
  rw [hs] at this
  cases this
  exact hk rfl
theorem ce_obj {tc : Nat → ClassId} {ad : Nat → Nat} {h : AH} {a ci n : Nat} (hs : mS h a = (ci + 1, n)) (hc : ci < 9) : ce_ tc ad h a = .inr (ci, fs_ ad h a ci) := by
  unfold ce_
  rw [hs]
  exact if_pos (show ci + 1 < 100 by omega)
theorem ce_arr {tc : Nat → ClassId} {ad : Nat → Nat} {h : AH} {a t n : Nat} (hs : mS h a = (100 + t, n)) : ce_ tc ad h a = .inl (tc t, ar_ ad h a t n) := by
  unfold ce_
  rw [hs]
  simp only [show ¬ 100 + t < 100 by omega, if_false, show 100 + t - 100 = t by omega]
theorem fs_get {ad : Nat → Nat} {h : AH} {a ci k c : Nat} (hf : (fc ci)[k]? = some c) : (fs_ ad h a ci)[k]? = some (fv ad h a k c) := by
  unfold fs_
  rw [List.getElem?_mapIdx, hf]
  rfl
theorem fs_len {ad : Nat → Nat} {h : AH} {a ci : Nat} : (fs_ ad h a ci).length = (fc ci).length := by unfold fs_; exact List.length_mapIdx
theorem fs_set {ad : Nat → Nat} {h h' : AH} {a ci k c : Nat} (hf : (fc ci)[k]? = some c) (ho : ∀ j c', j ≠ k → fv ad h' a j c' = fv ad h a j c') : (fs_ ad h a ci).set k (fv ad h' a k c) = fs_ ad h' a ci := by
  apply List.ext_getElem?
  intro i
  unfold fs_
  rw [List.getElem?_set, List.getElem?_mapIdx, List.getElem?_mapIdx]
  by_cases hi : k = i
  · subst hi
    rw [if_pos rfl, hf, if_pos (by rw [List.length_mapIdx]; exact (List.getElem?_eq_some_iff.mp hf).1)]
    rfl
  · rw [if_neg hi]
    cases (fc ci)[i]? with
    | none => rfl
    | some c' => simp only [Option.map_some]; rw [ho i c' (fun z => hi z.symm)]
/-- the cells that a method may change -/
def Af (ad : Nat → Nat) (h : AH) (sz : Nat) : Nat → Prop := fun q => sz ≤ q ∨ ∃ k, nZ ≤ k ∧ k < mN h ∧ q = ad k
