/-! STATICS OF WHICH ONLY 'A REFERENCE OR NULL' IS SAID; ARRAYS OF ARRAYS; A THROW WHOSE FIRST CONSTRUCTOR HAS AN INDEX OF ITS OWN -/
def gI (comp : ClassId) (k : Nat) : Cell := { cls := comp, slots := Array.replicate k (.int 0), vm := .none }
def gR (z i j : Nat) : Value := if j < i then .ref (z + 1 + j) else .null
def gO (cA : ClassId) (n z i : Nat) : Cell := { cls := cA, slots := ((List.range n).map (gR z i)).toArray, vm := .none }
def gS (s : State) (cA comp : ClassId) (n k : Nat) : Nat → State
  | 0 => s.pushCell (gO cA n s.heap.size 0)
  | i + 1 => ((gS s cA comp n k i).pushCell (gI comp k)).setCell s.heap.size (gO cA n s.heap.size (i + 1))
theorem gO_size (cA : ClassId) (n z i : Nat) : (gO cA n z i).slots.size = n := by simp [gO]
theorem gO_zero (cA : ClassId) (n z : Nat) : gO cA n z 0 = { cls := cA, slots := Array.replicate n .null, vm := .none } := by
  unfold gO
  congr 1
  apply Array.ext
  · simp
  · intro i h1 h2
    simp [gR]
theorem gO_set (cA : ClassId) {n z i : Nat} (hi : i < n) : (gO cA n z i).setSlot i (.ref (z + 1 + i)) = gO cA n z (i + 1) := by
  unfold gO Cell.setSlot
  congr 1
  apply Array.ext_getElem?
  intro j
  rw [Array.getElem?_setIfInBounds]
  by_cases e : i = j
  · subst e
    simp [gR, hi]
  · rw [if_neg e]
    simp only [List.getElem?_toArray, List.getElem?_map]
    by_cases hj : j < n
    · rw [List.getElem?_range hj]
      simp only [Option.map_some]
      unfold gR
      by_cases g : j < i
      · rw [if_pos g, if_pos (by omega)]
      · rw [if_neg g, if_neg (by omega)]
    · rw [List.getElem?_eq_none (by rw [List.length_range]; omega)]
      rfl
theorem gS_facts (s : State) (cA comp : ClassId) (n k : Nat) : ∀ i, (gS s cA comp n k i).heap.size = s.heap.size + 1 + i ∧ (gS s cA comp n k i).heap[s.heap.size]? = some (gO cA n s.heap.size i) ∧ (gS s cA comp n k i).vm = s.vm ∧ (gS s cA comp n k i).slotsUsed = s.slotsUsed + n + i * k ∧ (∀ a, a < s.heap.size → (gS s cA comp n k i).heap[a]? = s.heap[a]?) ∧ ∀ j, j < i → (gS s cA comp n k i).heap[s.heap.size + 1 + j]? = some (gI comp k)
  | 0 => by
    refine ⟨by simp [gS, State.pushCell], by simp [gS, State.pushCell], rfl, by simp [gS, State.pushCell, gO_size], fun a ha => ?_, fun j hj => absurd hj (Nat.not_lt_zero j)⟩
    simp only [gS, State.pushCell]
    rw [Array.getElem?_push, if_neg (by omega)]
  | i + 1 => by
    obtain ⟨f1, f2, f3, f4, f5, f6⟩ := gS_facts s cA comp n k i
    refine ⟨by simp [gS, State.pushCell, State.setCell, f1]; omega, ?_, f3, ?_, fun a ha => ?_, fun j hj => ?_⟩
    · simp only [gS, State.pushCell, State.setCell]
      rw [Array.getElem?_setIfInBounds, if_pos rfl, if_pos (by rw [Array.size_push, f1]; omega)]
    · simp only [gS, State.pushCell, State.setCell, f4, gI, Array.size_replicate, Nat.succ_mul]
      omega
    · simp only [gS, State.pushCell, State.setCell]
      rw [Array.getElem?_setIfInBounds, if_neg (by omega), Array.getElem?_push, if_neg (by omega)]
      exact f5 a ha
    · simp only [gS, State.pushCell, State.setCell]
      rw [Array.getElem?_setIfInBounds, if_neg (by omega), Array.getElem?_push]
      by_cases e : s.heap.size + 1 + j = (gS s cA comp n k i).heap.size
      · rw [if_pos e]
      · rw [if_neg e]
        exact f6 j (by omega)
theorem gS_setTop (s : State) (f : JFrame) (cA comp : ClassId) (n k : Nat) : ∀ i, gS (s.setTop f) cA comp n k i = (gS s cA comp n k i).setTop f
  | 0 => rfl
  | i + 1 => by
    simp only [gS, gS_setTop s f cA comp n k i, State.heap_setTop, State.pushCell_setTop, State.setCell_setTop]
section GW
variable {E : CtlPost} {e : Env} {d : Bool} {acts : List Action} {s : State}
theorem g_newA {c comp : ClassId} {k : Class} {type : FieldType} {len : Nat} {init : Value} (hk : s.vm.classes[c]? = some k) (hkind : k.kind = .array comp type) (h1 : ¬ len > e.platform.arrayLengthLimit) (h2 : ¬ len * componentBytes type > e.platform.maxHeapBytes) (hfit : fits type init = true) (hdef : init.isDefault = true) {Q : Addr → Pre} (h3 : s.heap.size < e.platform.maxCells) (h4 : s.slotsUsed + len ≤ e.platform.maxSlots)
    (hq : Q s.heap.size d acts (s.pushCell { cls := c, slots := Array.replicate len init, vm := .none })) : wp (Jvm.newArray c len init) Q E e d acts s := by
  have hda : allocActs (Array.replicate len init) s.heap.size acts = acts := by
    unfold allocActs
    rw [if_pos]
    rw [Array.all_replicate]
    split <;> simp [hdef]
  simp only [Jvm.newArray, Jvm.arrayFits, wp_bind', W.ask, W.ite, h1, if_false, wp_pure', W.theClass, hk, hkind, h2, W.alloc, W.stop, Option.some.injEq, exists_eq_left', Array.size_replicate, hda]
  rw [if_neg (by omega)]
  refine ⟨h3, h4, fun i v hv => ?_, hq⟩
  rw [Array.getElem?_replicate] at hv
  split at hv
  · cases hv
    simp [State.fitsSlot, State.slotType?, hk, hkind, hfit]
  · cases hv
theorem g_make {cA comp c1 : ClassId} {kA kC : Class} {n k : Int32} (hkA : s.vm.classes[cA]? = some kA) (hA : kA.kind = .array comp (.array .int)) (hkC : s.vm.classes[comp]? = some kC) (hC : kC.kind = .array c1 .int) (hn : ¬ n < 0) (hk : ¬ k < 0)
    (l1 : n.toNatClampNeg ≤ e.platform.arrayLengthLimit) (b1 : n.toNatClampNeg * 4 ≤ e.platform.maxHeapBytes) (l2 : k.toNatClampNeg ≤ e.platform.arrayLengthLimit) (b2 : k.toNatClampNeg * 4 ≤ e.platform.maxHeapBytes)
    (hc : s.heap.size + 1 + n.toNatClampNeg ≤ e.platform.maxCells) (hs : s.slotsUsed + n.toNatClampNeg + n.toNatClampNeg * k.toNatClampNeg ≤ e.platform.maxSlots) {Q : Addr → Pre}
    (hq : ∀ d' acts', Q s.heap.size d' acts' (gS s cA comp n.toNatClampNeg k.toNatClampNeg n.toNatClampNeg)) : wp (multianewarray.make cA [n, k]) Q E e d acts s := by
  have hfind : ([k].find? (· < 0)) = none := by simp [hk]
  generalize hN : n.toNatClampNeg = N at *
  rw [multianewarray.make]
  simp only [wp_bind', W.ite, hn, if_false, wp_pure', W.theClass, hkA, hA, Option.some.injEq, exists_eq_left']
  rw [hN]
  refine g_newA hkA hA (by omega) (by show ¬ N * 4 > _; omega) rfl rfl (by omega) (by have := Nat.zero_le (N * k.toNatClampNeg); omega) ?_
  rw [← gO_zero cA N s.heap.size]
  simp only [hfind]
  rw [ite_self, wp_bind', Std.Legacy.Range.forIn_eq_forIn_range']
  rw [show ([:N] : Std.Legacy.Range).size = N by simp [Std.Legacy.Range.size]]
  show wp (forIn (List.range' 0 N 1) PUnit.unit _) _ E e d acts (gS s cA comp N k.toNatClampNeg 0)
  refine wp_forIn_inv (fun r s' => ∃ i, i ≤ N ∧ r = List.range' i (N - i) ∧ s' = gS s cA comp N k.toNatClampNeg i) _ _ ⟨0, Nat.zero_le _, rfl, rfl⟩ ?_ ?_
  · rintro x r s' d' acts' Q' ⟨i, hi, hl, rfl⟩ hnext
    have hlt : i < N := by
      rcases Nat.lt_or_ge i N with h | h
      · exact h
      · rw [show N - i = 0 by omega] at hl
        cases hl
    rw [show N - i = (N - (i + 1)) + 1 by omega, List.range'_succ] at hl
    cases hl
    obtain ⟨f1, f2, f3, f4, f5, f6⟩ := gS_facts s cA comp N k.toNatClampNeg x
    have hmul : (x + 1) * k.toNatClampNeg ≤ N * k.toNatClampNeg := Nat.mul_le_mul_right _ hlt
    rw [Nat.succ_mul] at hmul
    simp only [wp_bind']
    rw [multianewarray.make]
    simp only [wp_bind', W.ite, hk, if_false, wp_pure', W.theClass, f3, hkC, hC, Option.some.injEq, exists_eq_left']
    refine g_newA (by rw [f3]; exact hkC) hC (by omega) (by show ¬ k.toNatClampNeg * 4 > _; omega) rfl rfl (by rw [f1]; omega) (by rw [f4]; omega) ?_
    have hlt0 : s.heap.size < (gS s cA comp N k.toNatClampNeg x).heap.size := by rw [f1]; omega
    simp only [wp_bind', W.writeLoc, wp_pure']
    refine ⟨gO cA N s.heap.size x, ?_, (by first | (intro z; cases z) | rfl | simp [gO]), (by rw [gO_size]; exact hlt), ?_, hnext _ _ _ ⟨x + 1, hlt, rfl, ?_⟩⟩
    · show ((gS s cA comp N k.toNatClampNeg x).heap.push _)[s.heap.size]? = _
      rw [Array.getElem?_push, if_neg (by omega)]
      exact f2
    · simp [State.fitsSlot, State.slotType?, State.pushCell, f3, hkA, hA, gO, fits]
    · rw [f1, gO_set cA hlt]
      rfl
  · rintro s' d' acts' ⟨i, hi, hl, rfl⟩
    have : i = N := by
      rcases Nat.lt_or_ge i N with h | h
      · rw [show N - i = (N - (i + 1)) + 1 by omega, List.range'_succ] at hl
        cases hl
      · omega
    subst this
    simp only [wp_pure']
    exact hq _ _
end GW
section MU
variable {p : Program} {l : Launch} {e : Env} {R : Room} {s : State} {m : MethodId} {args : Array Value} {below : List Frame} {meth : Method} {c : Code} {T : State} {locs : List Loc} {cells slots : Nat}
theorem gS_stand (X : Stand p l e R s m args below meth c T locs cells slots) (cA comp : ClassId) (n k : Nat) : ∀ i, i ≤ n → ∃ L, Stand p l e R s m args below meth c (gS T cA comp n k i) (locs ++ L) (cells + 1 + i) (slots + n + i * k) ∧ ∀ z ∈ L, z.base = T.heap.size
  | 0, _ => by
    have h := X.pushed (gO cA n T.heap.size 0)
    rw [gO_size] at h
    exact ⟨[], by simpa [gS] using h, fun z hz => nomatch hz⟩
  | i + 1, hi => by
    obtain ⟨L, h, hL⟩ := gS_stand X cA comp n k i (by omega)
    obtain ⟨f1, f2, f3, f4, f5, f6⟩ := gS_facts T cA comp n k i
    have h1 := h.pushed (gI comp k)
    have hg : ((gS T cA comp n k i).pushCell (gI comp k)).heap[T.heap.size]? = some (gO cA n T.heap.size i) := by
      show ((gS T cA comp n k i).heap.push _)[T.heap.size]? = _
      rw [Array.getElem?_push, if_neg (by omega)]
      exact f2
    have h2 := h1.stored hg i (.ref (T.heap.size + 1 + i))
    rw [gO_set cA hi, show (gI comp k).slots.size = k by simp [gI]] at h2
    refine ⟨L ++ [⟨T.heap.size, i⟩], ?_, fun z hz => ?_⟩
    · rw [Nat.succ_mul, ← List.append_assoc]
      have e3 : slots + n + (i * k + k) = slots + n + i * k + k := by omega
      rw [e3]
      exact h2
    · rcases List.mem_append.mp hz with hz | hz
      · exact hL z hz
      · rw [List.mem_singleton.mp hz]
theorem g_W {H : Heap} {Q : State → Prop} {cc : ByteArray} (hexec : p.tables.exec = Jvm.exec) (hb : c.code = cc) {own : String} {index : Nat} (hown : s.vm.findClass own = some m.cls) (hcl : (Cond.classLink own index "[[I").before args s = true) {cA comp c1 : ClassId} {kA kC : Class} (hA : s.vm.findClass "[[I" = some cA) (hkA : s.vm.classes[cA]? = some kA) (kA2 : kA.kind = .array comp (.array .int)) (hkC : s.vm.classes[comp]? = some kC) (kC2 : kC.kind = .array c1 .int)
    {n k : Int32} {N K : Nat} (hn : ¬ n < 0) (hk : ¬ k < 0) (hN : n.toNatClampNeg = N) (hK : k.toNatClampNeg = K) (hN2 : N ≤ 1000) (hK2 : K ≤ 1000) {g : JFrame} (hg : g.method = m) (hdg : decode cc g.pc = .ok (.multianewarray index 2, 4)) {rest : List Value} (hstack : g.stack = .int k :: .int n :: rest) (hH : s.heap.size ≤ H.size) (hcells : cells + 1 + N ≤ R.cells) (hslots : slots + N + N * K ≤ R.slots)
    (kk : ∀ H1 : Heap, H1.size = H.size + 1 + N → (∀ a, a < H.size → H1[a]? = H[a]?) → H1[H.size]? = some (gO cA N H.size N) → (∀ j, j < N → H1[H.size + 1 + j]? = some (gI comp K)) → W p l e R s m args below meth c H1 locs (cells + 1 + N) (slots + N + N * K) Q { g with pc := g.pc + 4, stack := .ref H.size :: rest }) : W p l e R s m args below meth c H locs cells slots Q g := by
  intro T hT X
  subst hT; subst hb; subst hg
  have hpl : e.platform.magicAccessors = ({} : Platform).magicAccessors := by rw [X.admits.platform]
  obtain ⟨c0, hfc0, hcl0⟩ := Cond.classLink_spec hown hcl e.platform hpl
  cases hA.symm.trans hfc0
  obtain ⟨hg₁, hwarm₁, hready₁⟩ := State.classEntry (e := e) X.warmed hcl0
  generalize T.vm.noted g.method.cls index (.cls cA) = vm₁ at hg₁ hwarm₁ hready₁
  have hal : s.vm.Alike vm₁ := hwarm₁.alike
  obtain ⟨kA', hkA', heA⟩ := hal.2.2 _ _ hkA
  obtain ⟨kC', hkC', heC⟩ := hal.2.2 _ _ hkC
  have X1 := X.noted hwarm₁
  obtain ⟨hr1, hr2⟩ := X.roomAbove (a := 1 + N) (b := N + N * K) (by omega) (by omega)
  obtain ⟨L, X2, hL⟩ := gS_stand X1 cA comp N K N (Nat.le_refl _)
  have X3 := X2.forget (fun y hy => by rw [hL y hy]; exact hH)
  obtain ⟨f1, f2, f3, f4, f5, f6⟩ := gS_facts (T.setVm vm₁) cA comp N K N
  obtain ⟨t, a1, b1⟩ := kk _ f1 f5 f2 f6 _ rfl X3
  refine ⟨t, ?_, b1⟩
  have l1 : n.toNatClampNeg ≤ e.platform.arrayLengthLimit := by rw [Launch.admits_arrayLengthLimit X.admits]; omega
  have b1' : n.toNatClampNeg * 4 ≤ e.platform.maxHeapBytes := by rw [Launch.admits_maxHeapBytes X.admits]; omega
  have l2 : k.toNatClampNeg ≤ e.platform.arrayLengthLimit := by rw [Launch.admits_arrayLengthLimit X.admits]; omega
  have b2 : k.toNatClampNeg * 4 ≤ e.platform.maxHeapBytes := by rw [Launch.admits_maxHeapBytes X.admits]; omega
  jvm_step X.here [hexec, hdg]
  simp only [multianewarray.sem, wp_bind', W.resolveClassAt_links (State.method?_setTop g X.here.top) hg₁]
  rw [W.popN, if_neg (by decide)]
  refine ⟨g, State.topJava?_setTop' (s := T.setVm vm₁) g X.here.top, [.int n, .int k], rest, rfl, hstack, ?_⟩
  simp only [List.mapM_cons, List.mapM_nil, wp_bind', wp_pure']
  refine g_make (kA := kA') (kC := kC') (comp := comp) (c1 := c1) hkA' (by rw [heA]; exact kA2) hkC' (by rw [heC]; exact kC2) hn hk l1 b1' l2 b2 (by show T.heap.size + 1 + _ ≤ _; omega) (by show T.slotsUsed + _ + _ ≤ _; rw [hN, hK]; omega) (fun d' acts' => ?_)
  rw [hN, hK]
  have eS : ((T.setTop g).setVm vm₁).setTop { g with stack := rest } = (T.setVm vm₁).setTop { g with stack := rest } := by
    show ((T.setVm vm₁).setTop g).setTop _ = _
    rw [State.setTop_setTop]
  rw [eS, gS_setTop]
  simp only [wp_bind', W.mark, W.pushRef, State.topJava?_setTop' _ X3.here.top, Option.some.injEq, exists_eq_left', State.setTop_setTop, State.heap_setTop]
  intro acts
  simp [jvm, X3.here.top]
  exact a1
end MU
/-- the heap with a new array of N arrays of K numbers -/
def nwM (h : AH) (n k : Nat) : AH := (fun a => if a = mN h then (108, n) else if mN h < a ∧ a ≤ mN h + n then (100, k) else mS h a, fun a j => if mN h ≤ a ∧ a ≤ mN h + n then 0 else mI h a j, fun a j => if a = mN h then (if j < n then mN h + 1 + j else 0) else if mN h < a ∧ a ≤ mN h + n then 0 else mR h a j, fun a j => if mN h ≤ a ∧ a ≤ mN h + n then 0 else mL h a j, mN h + 1 + n)
def adM (ad : Nat → Nat) (b n z : Nat) : Nat → Nat := fun a => if b ≤ a ∧ a ≤ b + n then z + (a - b) else ad a
theorem mS_nwMo {h : AH} {n k a : Nat} (ha : a < mN h) : mS (nwM h n k) a = mS h a := by
  show (if a = mN h then _ else if mN h < a ∧ a ≤ mN h + n then _ else mS h a) = _
  rw [if_neg (by omega), if_neg (by omega)]
theorem mI_nwMo {h : AH} {n k a : Nat} (ha : a < mN h) : mI (nwM h n k) a = mI h a := by
  funext j
  show (if mN h ≤ a ∧ a ≤ mN h + n then 0 else mI h a j) = _
  rw [if_neg (by omega)]
theorem mL_nwMo {h : AH} {n k a : Nat} (ha : a < mN h) : mL (nwM h n k) a = mL h a := by
  funext j
  show (if mN h ≤ a ∧ a ≤ mN h + n then 0 else mL h a j) = _
  rw [if_neg (by omega)]
theorem mR_nwMo {h : AH} {n k a : Nat} (ha : a < mN h) : mR (nwM h n k) a = mR h a := by
  funext j
  show (if a = mN h then _ else if mN h < a ∧ a ≤ mN h + n then 0 else mR h a j) = _
  rw [if_neg (by omega), if_neg (by omega)]
theorem wf.nwM {h : AH} (w : wf h) (n k : Nat) : wf (nwM h n k) := by
  obtain ⟨w1, w2, w3, w4, w5⟩ := w
  refine ⟨?_, fun a j => ?_, fun a ha => ?_, fun a ha => ?_, ?_⟩
  · show nZ ≤ mN h + 1 + n
    omega
  · show (if a = mN h then (if j < n then mN h + 1 + j else 0) else if mN h < a ∧ a ≤ mN h + n then 0 else mR h a j) < mN h + 1 + n
    have := w2 a j
    split
    · split <;> omega
    · split <;> omega
  · have ha' : mN h + 1 + n ≤ a := ha
    show (if a = mN h then _ else if mN h < a ∧ a ≤ mN h + n then _ else mS h a) = _
    rw [if_neg (by omega), if_neg (by omega)]
    exact w3 a (by omega)
  · rw [mS_nwMo (by omega)]
    exact w4 a ha
  · rw [mS_nwMo (show 0 < mN h by have : 64 ≤ mN h := w1; omega)]
    exact w5
theorem sameS.nwM {h : AH} (w : wf h) (n k : Nat) : sameS h (nwM h n k) := fun a ha => by
  have h1 : a < mN h := Nat.lt_of_lt_of_le ha w.1
  exact ⟨mS_nwMo h1, by rw [mI_nwMo h1], by rw [mR_nwMo h1], by rw [mL_nwMo h1]⟩
theorem ar_o (ad : Nat → Nat) (h : AH) (n k N z i : Nat) (cA : ClassId) (hz : 0 < mN h) (had : ∀ a, mN h ≤ a → a ≤ mN h + n → ad a = z + (a - mN h)) : vp_cell cA (ar_ ad (nwM h n k) (mN h) 8 n) = gO cA n z n := by
  unfold ar_
  rw [if_neg (by decide), if_neg (by decide), if_pos (by decide)]
  show arrV cA n (fun j => va_rf (rf ad (if mN h = mN h then (if j < n then mN h + 1 + j else 0) else if mN h < mN h ∧ mN h ≤ mN h + n then 0 else mR h (mN h) j))) = _
  unfold arrV gO
  congr 1
  apply Array.ext_getElem?
  intro j
  simp only [Array.getElem?_ofFn, List.getElem?_toArray, List.getElem?_map]
  by_cases hj : j < n
  · rw [dif_pos hj, List.getElem?_range hj]
    simp only [Option.map_some, if_true, hj]
    unfold rf gR
    rw [if_neg (show ¬ mN h + 1 + j = 0 by omega), if_pos hj, had _ (by omega) (by omega), show mN h + 1 + j - mN h = 1 + j by omega, show z + (1 + j) = z + 1 + j by omega]
    rfl
  · rw [dif_neg hj, List.getElem?_eq_none (by rw [List.length_range]; omega)]
    rfl
theorem ar_i (ad : Nat → Nat) (h : AH) (n k b : Nat) (comp : ClassId) (h1 : mN h < b) (h2 : b ≤ mN h + n) : vp_cell comp (ar_ ad (nwM h n k) b 0 k) = gI comp k := by
  unfold ar_
  rw [if_neg (by decide), if_neg (by decide), if_neg (by decide)]
  show arrV comp k (fun j => .int (if mN h ≤ b ∧ b ≤ mN h + n then 0 else mI h b j)) = _
  have e9 : mN h ≤ b ∧ b ≤ mN h + n := ⟨by omega, h2⟩
  simp only [if_pos e9]
  unfold gI
  rw [arrV_new]
section XM
variable {M : Mt} {lv : Nat} {K : Option Value → AH → Prop} {T : String → AH → Prop} {rc rs pc : Nat} {ls : List (Nat × Value)} {st : List Value} {h : AH}
theorem X_getstU {idx : Nat} (hl : Cond.fieldLink M.1.cls idx "jdk/internal/util/Preconditions" "SIOOBE_FORMATTER" "Ljava/util/function/BiFunction;" ∈ gw) (hd : decode M.2.1 pc = .ok (.getstatic idx, 3)) (kk : ∀ k, k = 0 ∨ k = 62 → X M lv K T rc rs (pc + 3) ls (.ref k :: st) h) : X M lv K T rc rs pc ls st h := by
  intro p l e R s m args below meth cc D tc A n0 ad0 h0 Q ad H locs cells slots la C hR hE hst hls hla hc hs eR eT
  obtain ⟨hx, hb, hml, hret, hts, hown, hlk, htab, hns, hini, hfr, hlo⟩ := id C
  obtain ⟨r1, r2, r3, r4, r5, r6, r7⟩ := id hR
  obtain ⟨k, hk, h9⟩ := r5.2.2.2.2.2.2.2.2.2.2.2.2.2
  exact va_gets hx hb h9 r4 hown (hts _ hl) (fun _ h => h) hd (kk k hk p l e R s m args below meth cc D tc A n0 ad0 h0 Q ad H locs cells slots la C hR hE (List.forall_mem_cons.mpr ⟨by have h8 : 64 ≤ mN h := r7.1; show (k : Nat) < mN h; rcases hk with rfl | rfl <;> exact Nat.lt_of_lt_of_le (by decide) h8, hst⟩) hls hla hc hs eR eT)
theorem X_ldcSW {idx j : Nat} {tx : String} {x : Nat} (hq : stl[j]? = some (M.1.cls, idx, tx, x)) (hne : x ≠ 0) {n : Nat} (hn : n = 2) (hd : decode M.2.1 pc = .ok (.ldc_w idx, 3)) (kk : X M lv K T rc rs (pc + 3) ls (.ref x :: st) h) : X M lv K T rc rs pc ls st h := by
  intro p l e R s m args below meth cc D tc A n0 ad0 h0 Q ad H locs cells slots la C hR hE hst hls hla hc hs eR eT
  obtain ⟨hx, hb, hml, hret, hts, hown, hlk, htab, hns, hini, hfr, hlo⟩ := id C
  obtain ⟨r1, r2, r3, r4, r5, r6, r7⟩ := id hR
  have hm := List.mem_of_getElem? hq
  have h9 := r5.2.2.2.2.1 _ hm
  have hz : x < nZ := (show ∀ q ∈ stl, q.2.2.2 < nZ by decide +kernel) _ hm
  have k9 := kk p l e R s m args below meth cc D tc A n0 ad0 h0 Q ad H locs cells slots la C hR hE (List.forall_mem_cons.mpr ⟨Nat.lt_of_lt_of_le hz r7.1, hst⟩) hls hla hc hs eR eT
  rw [List.map_cons, cv_ref hne] at k9
  intro T9 hT X9
  obtain ⟨t, a1, b1⟩ := k9 T9 hT X9
  exact ⟨t, X9.ldcStringW hx (own := M.1.cls) (text := tx) (index := idx) (a := ad x) hown h9.1 h9.2 (g := F0 m pc la (st.map (cv ad))) rfl (by rw [hb]; exact hd) t a1, b1⟩
theorem X_multi {idx N N2 rc' rs' : Nat} {n k : Int32} (hcl : Cond.classLink M.1.cls idx "[[I" ∈ gw) (hd : decode M.2.1 pc = .ok (.multianewarray idx 2, 4)) (hn : ¬ n < 0) (hk : ¬ k < 0) (hN : n.toNatClampNeg = N) (hK : k.toNatClampNeg = N2) (hN2 : N ≤ 1000) (hK2 : N2 ≤ 1000) (h1 : rc' + (1 + N) ≤ rc) (h2 : rs' + (N + N * N2) ≤ rs)
    (kk : X M lv K T rc' rs' (pc + 4) ls (.ref (mN h) :: st) (nwM h N N2)) : X M lv K T rc rs pc ls (.int k :: .int n :: st) h := by
  intro p l e R s m args below meth cc D tc A n0 ad0 h0 Q ad H locs cells slots la C hR hE hst hls hla hc hs eR eT
  obtain ⟨hx, hb, hml, hret, hts, hown, hlk, htab, hns, hini, hfr, hlo⟩ := id C
  obtain ⟨r1, r2, r3, r4, r5, r6, r7⟩ := id hR
  obtain ⟨comp, cA, kA, g1, g2, g3, g4⟩ := r5.2.2.2.2.2.2.2.2.2.2.2.2.1
  have t8 := r1.2 8 (tc 8, ty_ 8) rfl
  have t0 := r1.2 0 (tc 0, ty_ 0) rfl
  have e8 : cA = tc 8 := Option.some.inj (g2.symm.trans (show s.vm.findClass "[[I" = some (tc 8) from t8.2))
  have e0 : comp = tc 0 := Option.some.inj (g1.symm.trans (show s.vm.findClass "[I" = some (tc 0) from t0.2))
  obtain ⟨-, kC, hkC, c1, kC2⟩ := t0.1 0 (fun _ => .null)
  rw [List.map_cons, List.map_cons]
  refine g_W hx hb hown (hts _ hcl) g2 g3 g4 (by rw [e0]; exact hkC) kC2 hn hk hN hK hN2 hK2 rfl hd rfl r4.1 (by omega) (by omega) (fun H1 z1 o1 p1 q1 => ?_)
  have hmz : 64 ≤ mN h := r7.1
  have had : ∀ a, mN h ≤ a → a ≤ mN h + N → adM ad (mN h) N H.size a = H.size + (a - mN h) := fun a ha hb => if_pos ⟨ha, hb⟩
  have hado : ∀ a, a < mN h → adM ad (mN h) N H.size a = ad a := fun a ha => if_neg (by omega)
  have hlt : ∀ b, nZ ≤ b → b < mN h → ad b < H.size := fun b hb1 hb2 => (r2 _ _ (dyn_get (tc := tc) hb1 hb2)).lt
  have hold := r2.kept (H1 := H1) (fun k x hx => o1 x.1 ((r2 k x hx).lt))
  have hce : ∀ b, b < mN h → ce_ tc (adM ad (mN h) N H.size) (nwM h N N2) b = ce_ tc ad h b := fun b hb => ce_ext r7 hado (mS_nwMo hb) (mI_nwMo hb) (mR_nwMo hb) (mL_nwMo hb)
  have hR1 : Rel D tc A (adM ad (mN h) N H.size) (nwM h N N2) s H1 locs := by
    refine ⟨r1, fun i q hq => ?_, ⟨fun i j p q hp hq hpq => ?_, fun i q hq => ?_⟩, ⟨Nat.le_trans r4.1 (by omega), fun q g1 g2 => (o1 q (Nat.lt_of_lt_of_le g1 r4.1)).trans (r4.2.1 q g1 g2), r4.2.2⟩, r5.re r7 hado (sameS.nwM r7 N N2), r6, r7.nwM N N2⟩
    · obtain ⟨l1, rfl⟩ := dyn_at hq
      have l1' : nZ + i < mN h + 1 + N := l1
      by_cases c1 : nZ + i < mN h
      · rw [hado _ c1, hce _ c1]
        exact hold i _ (by have := dyn_get (tc := tc) (ad := ad) (h := h) (a := nZ + i) (by omega) c1; rwa [show nZ + i - nZ = i by omega] at this)
      · by_cases c2 : nZ + i = mN h
        · rw [c2, had _ (Nat.le_refl _) (by omega), show mN h - mN h = 0 by omega, ce_arr (t := 8) (n := N) (by show (if mN h = mN h then _ else _) = _; rw [if_pos rfl])]
          show H1[H.size]? = some (vp_cell (tc 8) (ar_ _ (nwM h N N2) (mN h) 8 N))
          rw [ar_o _ h N N2 N H.size 0 (tc 8) (by omega) had, p1, e8]
        · rw [had _ (by omega) (by omega), ce_arr (t := 0) (n := N2) (by show (if nZ + i = mN h then _ else if mN h < nZ + i ∧ nZ + i ≤ mN h + N then _ else _) = _; rw [if_neg c2, if_pos (by omega)])]
          show H1[H.size + (nZ + i - mN h)]? = some (vp_cell (tc 0) (ar_ _ (nwM h N N2) (nZ + i) 0 N2))
          rw [ar_i _ h N N2 (nZ + i) (tc 0) (by omega) (by omega), show H.size + (nZ + i - mN h) = H.size + 1 + (nZ + i - mN h - 1) by omega, q1 _ (by omega), e0]
    · obtain ⟨l1, rfl⟩ := dyn_at hp
      obtain ⟨l2, rfl⟩ := dyn_at hq
      have l1' : nZ + i < mN h + 1 + N := l1
      have l2' : nZ + j < mN h + 1 + N := l2
      by_cases c1 : nZ + i < mN h
      · by_cases c2 : nZ + j < mN h
        · have d1 := dyn_get (tc := tc) (ad := ad) (h := h) (a := nZ + i) (by omega) c1
          have d2 := dyn_get (tc := tc) (ad := ad) (h := h) (a := nZ + j) (by omega) c2
          rw [show nZ + i - nZ = i by omega] at d1
          rw [show nZ + j - nZ = j by omega] at d2
          refine r3.1 i j _ _ d1 d2 ?_
          have h9 : adM ad (mN h) N H.size (nZ + i) = adM ad (mN h) N H.size (nZ + j) := hpq
          rw [hado _ c1, hado _ c2] at h9
          exact h9
        · have h9 : adM ad (mN h) N H.size (nZ + i) = adM ad (mN h) N H.size (nZ + j) := hpq
          rw [hado _ c1, had _ (by omega) (by omega)] at h9
          have := hlt (nZ + i) (by omega) c1
          omega
      · by_cases c2 : nZ + j < mN h
        · have h9 : adM ad (mN h) N H.size (nZ + i) = adM ad (mN h) N H.size (nZ + j) := hpq
          rw [hado _ c2, had _ (by omega) (by omega)] at h9
          have := hlt (nZ + j) (by omega) c2
          omega
        · have h9 : adM ad (mN h) N H.size (nZ + i) = adM ad (mN h) N H.size (nZ + j) := hpq
          rw [had _ (by omega) (by omega), had _ (by omega) (by omega)] at h9
          omega
    · obtain ⟨l1, rfl⟩ := dyn_at hq
      have l1' : nZ + i < mN h + 1 + N := l1
      show A (adM ad (mN h) N H.size (nZ + i))
      by_cases c1 : nZ + i < mN h
      · rw [hado _ c1]
        have d1 := dyn_get (tc := tc) (ad := ad) (h := h) (a := nZ + i) (by omega) c1
        exact r3.2 _ _ d1
      · rw [had _ (by omega) (by omega)]
        exact r6 _ (Nat.le_trans r4.1 (by omega))
  have hle : mN h ≤ mN (nwM h N N2) := by show mN h ≤ mN h + 1 + N; omega
  have hE1 : Ext n0 ad0 h0 (adM ad (mN h) N H.size) (nwM h N N2) := ⟨Nat.le_trans hE.1 hle, fun b hb => (hado b (Nat.lt_of_lt_of_le hb hE.1)).trans (hE.2.1 b hb), hE.2.2.tr (sameS.nwM r7 N N2)⟩
  have k9 := kk p l e R s m args below meth cc D tc A n0 ad0 h0 Q (adM ad (mN h) N H.size) H1 locs (cells + 1 + N) (slots + N + N * N2) la C hR1 hE1 (List.forall_mem_cons.mpr ⟨by show mN h < mN h + 1 + N; omega, fun v hv => vok_n hle (hst v (List.mem_cons_of_mem _ (List.mem_cons_of_mem _ hv)))⟩) (fun q hq => vok_n hle (hls q hq)) (by rw [cvl_eq hado hls]; exact hla) (by omega) (by omega) eR eT
  rw [List.map_cons, cv_ref (by omega), had _ (Nat.le_refl _) (by omega), show mN h - mN h = 0 by omega, cvs_eq hado (fun v hv => hst v (List.mem_cons_of_mem _ (List.mem_cons_of_mem _ hv)))] at k9
  exact k9
end XM
/-! 'throw new NoSuchElementException("text")': its constructor calls RuntimeException's by entry 13 -/
def nsX : String := "java/util/NoSuchElementException"
def nsN : List String := ["java/lang/RuntimeException", "java/lang/Exception"]
abbrev nsB : ByteArray := prog_41_method_4_code
def nsK (w : Cond) : Bool := decide (w ≠ .code (Bundle.initS nsX) Bundle.six 2 none) && decide (w ≠ .methodLink nsX 7 (Bundle.initS "java/lang/RuntimeException"))
/-- its words: those of a throw, with the first link as it is here -/
def nsA (own : String) (ic : Nat) : List Cond := (Bundle.ownAtoms own ic nsX nsN).filter nsK
def nsF : List Cond := Bundle.passSAtoms nsX "java/lang/RuntimeException" 13 nsB
section NSC
variable {p : Program} {l : Launch} {e : Env} {R : Room} {s : State} {m : MethodId} {args : Array Value} {below : List Frame} {meth : Method} {c : Code} {T : State} {locs : List Loc} {cells slots : Nat}
set_option maxHeartbeats 4000000 in
theorem ns_ctor (X : Stand p l e R s m args below meth c T locs cells slots) (hexec : p.tables.exec = Jvm.exec) (htr : e.platform.stackTraces = false) {own : String} {ic : Nat} (hown : s.vm.findClass own = some m.cls)
    (h0 : ∀ a ∈ nsA own ic, a.before args s = true) (hF : ∀ a ∈ nsF, a.before args s = true) (hlocs : ∀ x ∈ locs, ∀ cell, s.heap[x.base]? = some cell → cell.vm.isStatics = false)
    {a : Addr} {cX : ClassId} {kX : Class} (hfX : s.vm.findClass nsX = some cX) (hkX : s.vm.classes[cX]? = some kX) (hcell : T.heap[a]? = some (freshCell cX kX)) (hnew : s.heap.size ≤ a) {msg : Value} (hmsg : msg.isRef = true)
    {g : JFrame} (hg : g.method = m) (hsize : g.locals.size = c.maxLocals) (hlocked : g.locked = none) (hentered : g.entered = []) {rest : List Value} (hstack : g.stack = msg :: .ref a :: .ref a :: rest)
    (hd6 : decode c.code g.pc = .ok (.invokespecial ic, 3)) (hd9 : decode c.code (g.pc + 3) = .ok (.athrow, 1)) (hout : ∀ x ∈ c.exceptionTable.toList, covers x (g.pc + 3) = false)
    (hRf : 5 < R.frames) (hRl : 2 * g.monitorRoom + ((Value.ref a :: rest).map fun v => v.category).sum + 81 ≤ R.locals) (hlocks : meth.locks = false) :
    ∃ U : State, Steps p.tables e below (T.setTop g) U ∧ U.status = .running ∧ Ended U below (.threw a) ∧ s.WarmedH U.vm ∧ s.sameButNew ({ U with vm := s.vm } : State) locs cells slots ∧ ∃ ce, U.heap[a]? = some ce ∧ ce.cls = cX ∧ ce.vm = .none := by
  have howns : e.platform.frameOwnsMonitors = true := by rw [X.admits.platform]
  have hfin : e.platform.finalization = false := by rw [X.admits.platform]
  have hpl : e.platform.magicAccessors = ({} : Platform).magicAccessors := by rw [X.admits.platform]
  have h : ∀ w, w ∈ Bundle.ownAtoms own ic nsX nsN → nsK w = true → w.before args s = true := fun w hw hk => h0 w (List.mem_filter.mpr ⟨hw, hk⟩)
  obtain ⟨TC, Z0, L, -, Y⟩ := ThrowableC.of_atoms (args := args) howns hfin hpl (fun x hx => h x (by simp [Bundle.ownAtoms, hx]) ((show ∀ x ∈ Bundle.throwableAtoms, nsK x = true by decide +kernel) x hx))
  obtain ⟨Z, MC, LZ, LM, hnZ⟩ := Init0T.ofS_atoms (args := args) hpl L Y (fun x hx => h x (by simp [Bundle.ownAtoms, hx]) ((show ∀ x ∈ Bundle.throwableSAtoms, nsK x = true by decide +kernel) x hx))
  obtain ⟨P1, L1, hP1m, hP1s⟩ := PassC.ofS_atoms (args := args) (s := s) hpl (X := nsX) (Y := "java/lang/RuntimeException") (index := 13) (bytes := nsB) (by decide +kernel) (by decide) (by decide +kernel) (by decide +kernel) (by decide +kernel) (by decide +kernel) hF
  obtain ⟨P2, Ps, hlen, L2, hL, hP2m, hlink1, hlink⟩ := Bundle.chainS (args := args) hpl hnZ ["java/lang/Exception"] "java/lang/RuntimeException" (by decide +kernel) (by decide +kernel) (fun x hx => h x (by
    unfold nsN Bundle.ownAtoms
    refine List.mem_append_left _ (List.mem_append_right _ ?_)
    rw [Bundle.chainSAtoms]
    exact List.mem_append_right _ hx) ((show ∀ x ∈ Bundle.chainSAtoms "java/lang/RuntimeException" ["java/lang/Exception"], nsK x = true by decide +kernel) x hx))
  have eP : P1.sup = P2.m := Option.some.inj (hP1s.symm.trans hP2m)
  have hfound : s.vm.findClass nsX = some P1.m.cls := findClass_of_methodNamed hP1m
  cases Option.some.inj (hfX.symm.trans hfound)
  have q : ∀ w, w ∈ ([.instantiable nsX 6, .selects nsX Bundle.tFill0 Bundle.tFill0, .selects nsX Bundle.tFill Bundle.tFill, .lays nsX Bundle.tN "cause" "Ljava/lang/Throwable;", .lays nsX Bundle.tN "stackTrace" Bundle.steD, .lays nsX Bundle.tN "suppressedExceptions" Bundle.listD, .lays nsX Bundle.tN "detailMessage" "Ljava/lang/String;", .isRef (.static Bundle.tN "UNASSIGNED_STACK" Bundle.steD), .isRef (.static Bundle.tN "SUPPRESSED_SENTINEL" Bundle.listD), .fieldLink Bundle.tN 198 Bundle.tN "backtrace" "Ljava/lang/Object;", .lays Bundle.tN Bundle.tN "backtrace" "Ljava/lang/Object;", .lays nsX Bundle.tN "backtrace" "Ljava/lang/Object;"] : List Cond) → w.holds args s none s [] = true := fun w hw => h w (by
    unfold Bundle.ownAtoms
    refine List.mem_append_right _ ?_
    refine List.mem_cons_of_mem _ ?_
    simp only [List.mem_cons, List.not_mem_nil, or_false] at hw ⊢
    rcases hw with rfl | rfl | rfl | rfl | rfl | rfl | rfl | rfl | rfl | rfl | rfl | rfl <;> simp) (by
    simp only [List.mem_cons, List.not_mem_nil, or_false] at hw
    rcases hw with rfl | rfl | rfl | rfl | rfl | rfl | rfl | rfl | rfl | rfl | rfl | rfl <;> decide +kernel)
  obtain ⟨c1, kX', hc1, hk, hord, -, -, hn6⟩ := Cond.instantiable_spec (q (.instantiable nsX 6) (by simp))
  cases Option.some.inj (hc1.symm.trans hfound)
  cases Option.some.inj (hkX.symm.trans hk)
  have hsel0 : selectMethod e.platform s.vm P1.m.cls TC.fill0 = .method TC.fill0 := by
    obtain ⟨c2, r2, m2, q1, q2, q3, q4, -⟩ := Cond.selects_spec (q (.selects nsX Bundle.tFill0 Bundle.tFill0) (by simp))
    cases Option.some.inj (q1.symm.trans hfound)
    cases Option.some.inj (q2.symm.trans (State.methodFound?_of_named Y.fill0 (by decide)))
    cases Option.some.inj (q3.symm.trans Y.fill0)
    rw [Launch.admits_selectMethod X.admits]
    exact q4
  have hselF : selectMethod e.platform s.vm P1.m.cls TC.fill = .method TC.fill := by
    obtain ⟨c2, r2, m2, q1, q2, q3, q4, -⟩ := Cond.selects_spec (q (.selects nsX Bundle.tFill Bundle.tFill) (by simp))
    cases Option.some.inj (q1.symm.trans hfound)
    cases Option.some.inj (q2.symm.trans (State.methodFound?_of_named Y.fill (by decide)))
    cases Option.some.inj (q3.symm.trans Y.fill)
    rw [Launch.admits_selectMethod X.admits]
    exact q4
  obtain ⟨cS, hcS, hiss⟩ := Y.statics
  obtain ⟨u0, hu0⟩ := Cond.staticRefV Y.unassigned L.unassignedStatic L.statics hcS hiss (q (.isRef (.static Bundle.tN "UNASSIGNED_STACK" Bundle.steD)) (by simp))
  obtain ⟨sen, hsen⟩ := Cond.staticRefV Y.sentinel L.sentinelStatic L.statics hcS hiss (q (.isRef (.static Bundle.tN "SUPPRESSED_SENTINEL" Bundle.listD)) (by simp))
  obtain ⟨ci8, i8, fB, hk8, hg8, ha8, hsB, -, hnB, htB, hffB⟩ := Cond.ownField (t := .object "java/lang/Object") Y.found L.cls (by decide +kernel) (q (.fieldLink Bundle.tN 198 Bundle.tN "backtrace" "Ljava/lang/Object;") (by simp)) (q (.lays Bundle.tN Bundle.tN "backtrace" "Ljava/lang/Object;") (by simp)) e.platform hpl
  obtain ⟨cS', hcS', heS, -, hkeep⟩ := X.same.2.2.2.2.2 TC.aS cS hcS
  have hcST : T.heap[TC.aS]? = some cS' := hcS'
  have hno : ∀ i, (⟨TC.aS, i⟩ : Loc) ∉ locs := fun i hm => by
    have := hlocs _ hm cS hcS
    rw [hiss] at this
    cases this
  have hknown : cS'.vm ≠ .unknown := by
    rw [heS]
    intro hu
    rw [show cS.vm = .unknown from hu] at hiss
    cases hiss
  have hne : TC.aS ≠ a := Nat.ne_of_lt (Nat.lt_of_lt_of_le (Array.getElem?_eq_some_iff.mp hcS).1 hnew)
  obtain ⟨iM, hffM⟩ := Y.msg
  obtain ⟨tyC, dC, hdC, hdnC⟩ := Cond.laysAt hfound hk Y.cause (q (.lays nsX Bundle.tN "cause" "Ljava/lang/Throwable;") (by simp))
  obtain ⟨tyS, dS, hdS, hdnS⟩ := Cond.laysAt hfound hk Y.stack (q (.lays nsX Bundle.tN "stackTrace" Bundle.steD) (by simp))
  obtain ⟨tyP, dP, hdP, hdnP⟩ := Cond.laysAt hfound hk Y.supp (q (.lays nsX Bundle.tN "suppressedExceptions" Bundle.listD) (by simp))
  obtain ⟨tyM, dM, hdM, hdnM⟩ := Cond.laysAt hfound hk hffM (q (.lays nsX Bundle.tN "detailMessage" "Ljava/lang/String;") (by simp))
  obtain ⟨tyB, dB, hdB, hdnB⟩ := Cond.laysAt hfound hk hffB (q (.lays nsX Bundle.tN "backtrace" "Ljava/lang/Object;") (by simp))
  have bC := Cond.laysApart hdB hdC hdnB hdnC (by rw [hnB, Y.causeName]; decide)
  have bS := Cond.laysApart hdB hdS hdnB hdnS (by rw [hnB, Y.stackName]; decide)
  have bP := Cond.laysApart hdB hdP hdnB hdnP (by rw [hnB, Y.suppName]; decide)
  have hskip : SkipFacts TC e.platform s (fun u => u) u0 ((preparedCellV TC.toThrowableT (freshCell P1.m.cls kX) a u0 sen).withEntry T.cur) :=
    ⟨{ ci198 := ci8, i198 := i8, fBack := fB }, ⟨hk8, hg8, ha8, hsB⟩, by
      have := fresh_default (c := P1.m.cls) tyB
      rw [htB] at this
      simpa [preparedCellV, Cell.setSlot, Cell.withEntry, Array.getElem?_setIfInBounds, bC, bS, bP, bC.symm, bS.symm, bP.symm, defaultValue] using this, fun _ _ => rfl⟩
  have hmem : ∀ w, w ∈ nsF → w.before args s = true := hF
  obtain ⟨tm, methC, cdC, kC, vm₁, hnC, -, -, -, -, -, -, -, hW₁, st1⟩ := Steps.initColdS (tb := p.tables) (e := e) (below := below) (s := s) (U := T) X.here hexec X.warmed hpl hown (t := Bundle.initS nsX) rfl rfl (by decide +kernel)
    (h (.methodLink own ic (Bundle.initS nsX)) (by unfold Bundle.ownAtoms; exact List.mem_append_right _ List.mem_cons_self) (by
      unfold nsK
      simp [Bundle.initS, nsX])) (hmem (.instanceMethod (Bundle.initS nsX)) (by simp [nsF, Bundle.passSAtoms])) (bytes := nsB) (maxL := 2) (hmem (.code (Bundle.initS nsX) nsB 2 none) (by simp [nsF, Bundle.passSAtoms]))
    (f := g) hg (a := a) (msg := msg) (rest := .ref a :: rest) hstack hd6
  cases Option.some.inj (hnC.symm.trans hP1m)
  have X₁ := X.noted hW₁
  have h13 : (P1 :: P2 :: Ps).length = 3 := by simp [hlen]
  obtain ⟨vm₂, X₂, st2⟩ := X₁.ctorMessageOffV hexec (g := { g with stack := .ref a :: rest }) hg hsize TC L Z LZ MC LM (P1 :: P2 :: Ps)
    (fun P hP => by
      rcases List.mem_cons.mp hP with rfl | hP
      · exact L1
      · rcases List.mem_cons.mp hP with rfl | hP
        · exact L2
        · exact hL P hP) ⟨eP, hlink1, hlink⟩ (u0 := u0) (sen := sen) (self := a) hmsg (cell := freshCell P1.m.cls kX) (cellS := cS')
    hcell (fun _ => by simp) (by simp) rfl rfl hsel0 hselF hcST hne hknown (by rw [hkeep _ (hno _)]; exact hu0) (by rw [hkeep _ (hno _)]; exact hsen)
    (Takes.of_laid hk hord tyC (by rw [Y.causeType]; rfl)) (Takes.of_laid hk hord tyS (by rw [Y.stackType]; exact fits_refV_array _ u0)) (Takes.of_laid hk hord tyP (by rw [Y.suppType]; exact fits_refV_object _ sen))
    (Takes.of_laid hk hord tyM (by rw [Y.msgType]; exact fits_refV_object _ ⟨msg, hmsg⟩)) Y.objLocals hskip htr [] hd6 (by rw [h13]; omega) (by rw [h13]; exact hRl)
  obtain ⟨hwalk, hrun, hended, hWU, hsame⟩ := X₂.athrowLeaves hexec (g := { g with stack := .ref a :: rest, pc := g.pc + 3 }) hg hlocked hentered hout (a := a) (rest := rest) rfl hd9 hlocks
  have hlt : a < ((T.setVm vm₁).setVm vm₂).heap.size := (Array.getElem?_eq_some_iff.mp hcell).1
  have hU := heapAt_setCell_self (s := (T.setVm vm₁).setVm vm₂) (plainBareV TC.toThrowableT (freshCell P1.m.cls kX) a u0 sen msg) hlt
  refine ⟨_, st1 _ (fun acts => ?_), hrun, hended, hWU, hsame.weaken (fun y hy hlt' => ?_) (Nat.le_refl _) (Nat.le_refl _), _, hU, rfl, rfl⟩
  · rw [doInvoke_state]
    exact st2 _ hwalk
  · rcases List.mem_append.mp hy with h1 | h1
    · exact h1
    · exfalso
      have hb : y.base = a := by
        simp only [List.mem_cons, List.not_mem_nil, or_false] at h1
        rcases h1 with rfl | rfl | rfl | rfl | rfl <;> rfl
      rw [hb] at hlt'
      exact Nat.not_lt.mpr hnew hlt'
end NSC
theorem nsF_ok : ∀ w ∈ nsF, w ∈ lw_tbl ∧ okW w = true := fun w hw => ⟨(show ∀ w ∈ nsF, w ∈ lw_tbl by decide +kernel) w hw, (show ∀ w ∈ nsF, okW w = true by decide +kernel) w hw⟩
def TN (own : String) (ik is ic : Nat) (text : String) : Prop := Cond.classLink own ik nsX ∈ gw ∧ Cond.initialized nsX ∈ gw ∧ (own, is, text) ∈ mgl ∧ ∀ w ∈ (nsA own ic).filter vx_no, w ∈ lw_tbl ∧ okW w = true
section XN
variable {M : Mt} {lv : Nat} {K : Option Value → AH → Prop} {T : String → AH → Prop} {rc rs pc : Nat} {ls : List (Nat × Value)} {st : List Value} {h : AH}
theorem X_throwN {ik is ic w : Nat} {text : String} (hw : TN M.1.cls ik is ic text) (d0 : decode M.2.1 pc = .ok (.new ik, 3)) (d3 : decode M.2.1 (pc + 3) = .ok (.dup, 1)) (d4 : (w = 0 ∧ decode M.2.1 (pc + 4) = .ok (.ldc is, 2)) ∨ (w = 1 ∧ decode M.2.1 (pc + 4) = .ok (.ldc_w is, 3))) (d6 : decode M.2.1 (pc + 6 + w) = .ok (.invokespecial ic, 3)) (d9 : decode M.2.1 (pc + 6 + w + 3) = .ok (.athrow, 1))
    (hcov : ∀ x ∈ tableOf M.2.2.2.2, covers x (pc + 6 + w + 3) = false) (hlv : 7 ≤ lv) (hwt : (st.map fun v => v.category).sum ≤ 8) (hc1 : 1 ≤ rc) (hs1 : 6 ≤ rs) (hT : T nsX h) : X M lv K T rc rs pc ls st h := by
  intro p l e R s m args below meth c D tc A n0 ad0 hh Q ad H locs cells slots la C hR hE hst hls hla hc hs eR eT
  obtain ⟨hx, hb, hml, hret, hts, hown, hlk, htab, hns, hini, hfr, hlo⟩ := id C
  obtain ⟨t3, t4, t5, t6⟩ := hw
  obtain ⟨sa, hstr⟩ := hR.2.2.2.2.1.2.2.2.2.2.1 _ t5
  have hw9 := wt_eq ad hwt
  have hS := hR.2.2.2.1
  intro T9 hT9 X
  have htr : e.platform.stackTraces = false := (show e.platform.stackTraces = l.stackTraces by rw [X.admits.platform]).trans hns
  have Y := vx_rebase X (R' := { frames := R.frames, locals := R.locals, cells := 1, slots := 6 }) (Nat.le_refl _) (Nat.le_refl _) (by show cells + 1 ≤ R.cells; omega) (by show slots + 6 ≤ R.slots; omega)
  obtain ⟨s', hA⟩ : ∃ z, z = (T9.setVm s.vm).setFrames (.invoking m args :: below) := ⟨_, rfl⟩
  rw [← hA] at Y
  have hvm : s'.vm = s.vm := by rw [hA]; rfl
  have hhp : s'.heap = H := by rw [hA]; exact hT9
  have hW0 : s.WarmedH s'.vm := by rw [hvm]; exact State.WarmedH.refl s
  have key : ∀ w, w ∈ lw_tbl → okW w = true → w.before args s' = true := fun w h1 h2 => vx_ot_at hW0 hvm.symm (okW_ot h2) (okW_at hR.2.2.2.2.1 hts h1 h2)
  have hk' : (Cond.classLink M.1.cls ik nsX).before args s' = true := vx_ot_at hW0 hvm.symm (gw_ot t3) (hts _ t3)
  have hini' : (Cond.initialized nsX).before args s' = true := vx_ot_at hW0 hvm.symm (gw_ot t4) (hts _ t4)
  have hU' : vx_Zq Bundle.tN "UNASSIGNED_STACK" Bundle.steD A s' s'.heap := by rw [hhp]; exact vx_Zq.moved hW0.alike (hR.2.2.2.2.1.2.1.kept hS.2.1)
  have hN' : vx_Zq Bundle.tN "SUPPRESSED_SENTINEL" Bundle.listD A s' s'.heap := by rw [hhp]; exact vx_Zq.moved hW0.alike (hR.2.2.2.2.1.2.2.1.kept hS.2.1)
  have h1 : ∀ w ∈ nsA M.1.cls ic, w.before args s' = true := vx_own (fun w hw => key w (t6 w hw).1 (t6 w hw).2) (vx_isRefq hU'.1) (vx_isRefq hN'.1) hU'.2.word hN'.2.word
  have h2 : ∀ w ∈ nsF, w.before args s' = true := fun w hw => key w (nsF_ok w hw).1 (nsF_ok w hw).2
  have hown' : s'.vm.findClass M.1.cls = some m.cls := by rw [hvm]; exact hown
  have hins : (Cond.instantiable nsX 6).before args s' = true := h1 _ (List.mem_filter.mpr ⟨by unfold Bundle.ownAtoms; exact List.mem_append_right _ (List.mem_cons_of_mem _ List.mem_cons_self), by decide +kernel⟩)
  obtain ⟨vm₁, cX, kX, hfX, hkX, -, -, X₁, st1⟩ := Y.newCold hx (own := M.1.cls) (C := nsX) (index := ik) (n := 6) hown' hk' hins hini' (g := F0 m pc la (st.map (cv ad))) rfl (by rw [hb]; exact d0) (Nat.le_refl _) (Nat.le_refl _)
  generalize hT1 : (T9.setVm vm₁).pushCell { cls := cX, slots := kX.instanceTypes.map defaultValue, vm := .none } = T1 at X₁ st1
  have hcat : (Value.ref T9.heap.size).category = 1 := rfl
  have hcellA : T1.heap[T9.heap.size]? = some (freshCell cX kX) := by rw [← hT1]; exact State.heap_pushCell_size _ _
  have d3' : decode c.code (pc + 3) = .ok (.dup, 1) := by rw [hb]; exact d3
  have hstr' : vk_R M.1.cls is text sa s' := vk_R.warm hW0 hstr
  obtain ⟨U, hsteps, hrun, hend, hW, hsame, ce, hce, hO1, hO2⟩ := ns_ctor X₁ hx htr (own := M.1.cls) (ic := ic) hown' h1 h2 (fun x hx => nomatch hx) hfX hkX hcellA (by rw [hhp, hT9]; exact Nat.le_refl _) (msg := .ref sa) rfl
    (g := { method := m, pc := pc + 6 + w, locals := la, stack := .ref sa :: .ref T9.heap.size :: .ref T9.heap.size :: st.map (cv ad), locked := none }) rfl (hla.1.trans hml.symm) rfl rfl (rest := st.map (cv ad)) rfl
    (by rw [hb]; exact d6) (by rw [hb]; exact d9) (by rw [htab]; exact hcov) (by show 5 < R.frames; omega) (by
      show 2 * 0 + _ + 81 ≤ R.locals
      simp only [List.map_cons, List.sum_cons, hcat]
      omega) hlk
  obtain ⟨f1, f2⟩ := vx_frame hsame
  rw [hhp] at f1 f2
  have hWs : s.WarmedH U.vm := State.WarmedH.trans hW0 hW
  have hcl : s.vm.findClass nsX = some ce.cls := by
    rw [hO1, ← hvm]
    exact hfX
  have hall : s.sameButNew ({ U with vm := s.vm } : State) locs R.cells R.slots := by
    subst hA
    obtain ⟨e1, e2⟩ := hsame
    rw [State.setFrames_setFrames] at e1
    have h2 : (T9.setVm s.vm).sameButNew ({ U with vm := s.vm } : State) [] (0 + 1) (0 + 6) := ⟨e1, e2⟩
    have h3 := X.same.trans h2
    rw [List.append_nil] at h3
    exact h3.mono (by omega) (by omega)
  have hwt9 := wt_of hR hE (t := U) f1 (fun q hq => f2 q hq (fun z hz => nomatch hz))
  refine ⟨U, ?_, eT U ⟨.threw T9.heap.size, hrun, hend, Or.inr ⟨T9.heap.size, rfl, nsX, ce, locs, ⟨⟨h, ad, hT, hwt9.1⟩, hwt9.2⟩, hce, hO2, hcl, hWs, hall, hS.2.2⟩⟩⟩
  refine st1 _ ?_
  show Steps p.tables e below (T1.setTop { method := m, pc := pc + 3, locals := la, stack := .ref T9.heap.size :: st.map (cv ad), locked := none }) _
  jvm_step X₁.here [X₁.here.top, hx, d3', Value.category]
  rcases d4 with ⟨rfl, d4⟩ | ⟨rfl, d4⟩
  · exact X₁.ldcString hx (own := M.1.cls) (text := text) (index := is) (a := sa) hown' hstr'.1 hstr'.2
      (g := { method := m, pc := pc + 4, locals := la, stack := .ref T9.heap.size :: .ref T9.heap.size :: st.map (cv ad), locked := none }) rfl (by rw [hb]; exact d4) _ hsteps
  · exact X₁.ldcStringW hx (own := M.1.cls) (text := text) (index := is) (a := sa) hown' hstr'.1 hstr'.2
      (g := { method := m, pc := pc + 4, locals := la, stack := .ref T9.heap.size :: .ref T9.heap.size :: st.map (cv ad), locked := none }) rfl (by rw [hb]; exact d4) _ hsteps
end XN
