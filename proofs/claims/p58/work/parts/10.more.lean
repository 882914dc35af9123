/-! THROWS, CATCHES, NEW CELLS, THE JDK'S -/
theorem wt_of {D : va_G} {tc : Nat → ClassId} {A : Nat → Prop} {ad ad0 : Nat → Nat} {h h0 : AH} {n0 : Nat} {s t : State} {H : Heap} {locs : List Loc} (hR : Rel D tc A ad h s H locs) (hE : Ext n0 ad0 h0 ad h) (hz : H.size ≤ t.heap.size) (hq : ∀ q : Nat, q < H.size → t.heap[q]? = H[q]?) : Wt D tc A n0 ad0 h0 ad h t ∧ va_F A s t := by
  obtain ⟨r1, r2, r3, r4, r5, r6, r7⟩ := hR
  exact ⟨⟨r2.kept (fun k q hk => hq q.1 ((r2 k q hk).lt)), r3, r7, hE⟩, Nat.le_trans r4.1 hz, fun q h1 h2 => (hq q (Nat.lt_of_lt_of_le h1 r4.1)).trans (r4.2.1 q h1 h2)⟩
section MO
variable {M : Mt} {lv : Nat} {K : Option Value → AH → Prop} {T : String → AH → Prop} {rc rs pc : Nat} {ls : List (Nat × Value)} {st : List Value} {h : AH}
theorem XT_out {E : String} (hT : T E h) (hcov : ∀ x ∈ tableOf M.2.2.2.2, covers x pc = false) : XT M lv K T rc rs E pc ls h := by
  intro p l e R s m args below meth c D tc A n0 ad0 h0 Q ad H locs cells slots la q ce st C hR hE hls hla hc hs h3 h4 h5 eR eT
  obtain ⟨hx, hb, hml, hret, hts, hown, hlk, htab, hns, hini, hfr, hlo⟩ := id C
  have h9 := vx_out (m := m) (p := p) (l := l) (e := e) (R := R) (args := args) (below := below) (locs := locs) (cells := cells) (slots := slots) (ls := la) (rest := st) (pc := pc) (Qc := fun _ _ _ _ => False) (XC := fun E st t => (∃ (h : AH) (ad : Nat → Nat), T E h ∧ Wt D tc A n0 ad0 h0 ad h t) ∧ va_F A st t) (mc := R.cells) (ms := R.slots) (free := A) (by rw [htab]; exact hcov) hlk h3 h4 h5 (fun t ht _ => by
    obtain ⟨w1, w2⟩ := wt_of hR hE (t := t) (by rw [ht]; exact Nat.le_refl _) (fun q _ => by rw [ht])
    exact ⟨⟨h, ad, hT, w1⟩, w2⟩) hR.2.2.2.1.2.2 (by omega) (by omega)
  intro T9 hT9 X9
  obtain ⟨t, a1, b1⟩ := h9 T9 hT9 X9
  exact ⟨t, a1, eT t b1⟩
/-- a good word, or one that is kept by a law of its own -/
def okW (w : Cond) : Bool := goodWord w || (match w with
  | .castable a b => decide ((a, b) ∈ cal)
  | .declares y => decide (y ∈ dcl)
  | _ => false)
theorem okW_ot {w : Cond} (h : okW w = true) : vx_ot w = true := by
  unfold okW at h
  rcases (Bool.or_eq_true _ _).mp h with h | h
  · unfold vx_ot
    rw [h, Bool.or_true]
  · split at h
    · rfl
    · rfl
    · cases h
theorem okW_at {ad : Nat → Nat} {h : AH} {A : Nat → Prop} {s : State} {H : Heap} {args : Array Value} (hs : Sf ad h A s H) (hts : ∀ w ∈ gw, w.before args s = true) {w : Cond} (hm : w ∈ lw_tbl) (hk : okW w = true) : w.before args s = true := by
  unfold okW at hk
  rcases (Bool.or_eq_true _ _).mp hk with hk | hk
  · exact hts w (gw_of hm hk)
  · split at hk
    · exact va_Nw.use rfl (hs.2.2.2.2.2.2.2.2.1 _ (of_decide_eq_true hk))
    · exact va_Nw.use rfl (hs.2.2.2.2.2.2.2.2.2.2.2.1 _ (of_decide_eq_true hk))
    · cases hk
def TW (own : String) (ik is ic : Nat) (cls text : String) (names : List String) : Prop := Bundle.fit cls = true ∧ (∀ n ∈ names, Bundle.fit n = true) ∧ Cond.classLink own ik cls ∈ gw ∧ Cond.initialized cls ∈ gw ∧ (own, is, text) ∈ mgl ∧ (∀ w ∈ vx_atS own ic cls names, w ∈ lw_tbl ∧ okW w = true)
theorem gw_ot {w : Cond} (h : w ∈ gw) : vx_ot w = true := by
  have := (List.mem_filter.mp h).2
  unfold vx_ot
  rw [this, Bool.or_true]
theorem X_throwS {ik is ic : Nat} {cls text : String} {names : List String} (hw : TW M.1.cls ik is ic cls text names) (d0 : decode M.2.1 pc = .ok (.new ik, 3)) (d3 : decode M.2.1 (pc + 3) = .ok (.dup, 1)) (d4 : decode M.2.1 (pc + 4) = .ok (.ldc is, 2)) (d6 : decode M.2.1 (pc + 6) = .ok (.invokespecial ic, 3)) (d9 : decode M.2.1 (pc + 9) = .ok (.athrow, 1))
    (hcov : ∀ x ∈ tableOf M.2.2.2.2, covers x (pc + 9) = false) (hlv : names.length + 5 ≤ lv) (hwt : (st.map fun v => v.category).sum ≤ 8) (hc1 : 1 ≤ rc) (hs1 : 6 ≤ rs) (hT : T cls h) : X M lv K T rc rs pc ls st h := by
  intro p l e R s m args below meth c D tc A n0 ad0 h0 Q ad H locs cells slots la C hR hE hst hls hla hc hs eR eT
  obtain ⟨hx, hb, hml, hret, hts, hown, hlk, htab, hns, hini, hfr, hlo⟩ := id C
  obtain ⟨t1, t2, t3, t4, t5, t6⟩ := hw
  obtain ⟨sa, hstr⟩ := hR.2.2.2.2.1.2.2.2.2.2.1 _ t5
  have hw9 := wt_eq ad hwt
  have h9 := vx_throwS (m := m) (p := p) (l := l) (e := e) (R := R) (args := args) (below := below) (locs := locs) (cells := cells) (slots := slots) (ls := la) (rest := st.map (cv ad)) (Qc := fun _ _ _ _ => False) (XC := fun E st t => (∃ (h : AH) (ad : Nat → Nat), T E h ∧ Wt D tc A n0 ad0 h0 ad h t) ∧ va_F A st t) (mc := R.cells) (ms := R.slots) (free := A) (names := names) hx hb hns hown t1 t2 (hts _ t3) (hts _ t4) hstr (fun w hw => okW_at hR.2.2.2.2.1 hts (t6 w hw).1 (t6 w hw).2) (fun w hw => by
    rcases List.mem_cons.mp hw with rfl | hw
    · exact gw_ot t3
    · rcases List.mem_cons.mp hw with rfl | hw
      · exact gw_ot t4
      · exact okW_ot (t6 w hw).2) hR.2.2.2.2.1.2.1 hR.2.2.2.2.1.2.2.1 hR.2.2.2.1 (hla.1.trans hml.symm) d0 d3 d4 d6 d9 (by rw [htab]; exact hcov) (by omega) (by omega) (by omega) (by omega) hlk (fun t _ hz hq => by
    obtain ⟨w1, w2⟩ := wt_of hR hE (t := t) hz hq
    exact ⟨⟨h, ad, hT, w1⟩, w2⟩) hR.2.2.2.1.2.2 (by omega) (by omega)
  intro T9 hT9 X9
  obtain ⟨t, a1, b1⟩ := h9 T9 hT9 X9
  exact ⟨t, a1, eT t b1⟩
theorem XT_catch {E name : String} {i j : Nat} {ls' : List (Nat × Value)} (pre : List (Nat × Nat × Nat × Nat)) (x : Nat × Nat × Nat × Nat) (suf : List (Nat × Nat × Nat × Nat)) (hsp : M.2.2.2.2 = pre ++ x :: suf)
    (hpass : ∀ z ∈ pre, z.2.2.2 ≠ 0 ∧ ∃ nm : String, Cond.classLink M.1.cls z.2.2.2 nm ∈ gw ∧ (E, nm) ∈ ncl) (hcov : covers (⟨x.1, x.2.1, x.2.2.1, x.2.2.2⟩ : ExceptionTableEntry) pc = true) (h0 : x.2.2.2 ≠ 0) (hlink : Cond.classLink M.1.cls x.2.2.2 name ∈ gw) (hcast : (E, name) ∈ cal)
    (hd : (∃ k0 : Fin 4, (k0 : Nat) = i ∧ decode M.2.1 x.2.2.1 = .ok (.astore_n k0, 1) ∧ j = 1) ∨ (decode M.2.1 x.2.2.1 = .ok (.astore i, 2) ∧ j = 2)) (hn : i < M.2.2.1) (hls' : ∀ q ∈ ls', q ∈ ls ∧ q.1 ≠ i ∧ q.1 + 1 ≠ i) (k : X M lv K T rc rs (x.2.2.1 + j) ls' [] h) : XT M lv K T rc rs E pc ls h := by
  intro p l e R s m args below meth c D tc A n0 ad0 hh0 Q ad H locs cells slots la q ce st C hR hE hls hla hc hs h3 h4 h5 eR eT
  obtain ⟨hx, hb, hml, hret, hts, hown, hlk, htab, hns, hini, hfr, hlo⟩ := id C
  have hS := hR.2.2.2.2.1
  have e1 : c.exceptionTable.toList = tableOf pre ++ (⟨x.1, x.2.1, x.2.2.1, x.2.2.2⟩ : ExceptionTableEntry) :: tableOf suf := by
    rw [htab, hsp]
    unfold tableOf
    rw [List.map_append, List.map_cons]
  refine vx_catch hown (tableOf pre) _ (tableOf suf) e1 (fun z hz => ?_) hcov h0 (hts _ hlink) (va_Nw.use rfl (hS.2.2.2.2.2.2.2.2.1 _ hcast)) h3 h4 h5 ?_
  · obtain ⟨y, hy, rfl⟩ := List.mem_map.mp hz
    obtain ⟨p1, nm, p2, p3⟩ := hpass y hy
    exact Or.inr ⟨p1, nm, hts _ p2, hS.2.2.2.2.2.2.2.2.2.2.1 _ p3⟩
  · have key : ∀ la' : Array Slot, lv_has la' M.2.2.1 ((i, .ref q) :: (cvl ad ls).filter (fun q => !(q.1 == i) && !(q.1 + 1 == i && q.2.category == 2))) → lv_has la' M.2.2.1 (cvl ad ls') := by
      intro la' hla'
      refine ⟨hla'.1, hla'.2.1, fun z hz => hla'.2.2 z (List.mem_cons_of_mem _ ?_)⟩
      obtain ⟨y, hy, rfl⟩ := List.mem_map.mp hz
      obtain ⟨y1, y2, y3⟩ := hls' y hy
      refine List.mem_filter.mpr ⟨List.mem_map.mpr ⟨y, y1, rfl⟩, ?_⟩
      have e2 : (y.1 == i) = false := beq_false_of_ne y2
      have e3 : (y.1 + 1 == i) = false := beq_false_of_ne y3
      simp only [e2, e3, Bool.false_and, Bool.not_false, Bool.and_self]
    have kk := fun la' hla' => k p l e R s m args below meth c D tc A n0 ad0 hh0 Q ad H locs cells slots la' C hR hE (fun v hv => absurd hv List.not_mem_nil) (fun q hq => hls q (hls' q hq).1) (key la' hla') hc hs eR eT
    rcases hd with ⟨k0, d1, d2, rfl⟩ | ⟨d2, rfl⟩
    · exact lv_astore_n hx hb d2 d1 hla hn rfl kk
    · exact lv_astore hx hb d2 hla hn rfl kk
theorem X_objInit {idx a : Nat} (hd : decode M.2.1 pc = .ok (.invokespecial idx, 3)) (hl : Cond.methodLink M.1.cls idx Lib.objectInit ∈ gw) (hi : Cond.instanceMethod Lib.objectInit ∈ gw) (hco : Cond.code Lib.objectInit ⟨#[0xb1]⟩ 1 none ∈ gw) (hne : a ≠ 0) (hlv : 1 ≤ lv) (hwt : (st.map fun v => v.category).sum ≤ 8) (k : X M lv K T rc rs (pc + 3) ls st h) : X M lv K T rc rs pc ls (.ref a :: st) h := by
  intro p l e R s m args below meth c D tc A n0 ad0 h0 Q ad H locs cells slots la C hR hE hst hls hla hc hs eR eT
  obtain ⟨hx, hb, hml, hret, hts, hown, hlk, htab, hns, hini, hfr, hlo⟩ := id C
  rw [List.map_cons, cv_ref hne]
  have hw9 := wt_eq ad hwt
  exact W.objInit hx hb hown (hts _ hl) (hts _ hi) (hts _ hco) (g := F0 m pc la (.ref (ad a) :: st.map (cv ad))) rfl (hla.1.trans hml.symm) rfl hd (by omega) (by show 2 * 0 + _ + 12 ≤ _; omega) (k p l e R s m args below meth c D tc A n0 ad0 h0 Q ad H locs cells slots la C hR hE (fun v hv => hst v (List.mem_cons_of_mem _ hv)) hls hla hc hs eR eT)
theorem X_mmax {idx : Nat} {x y : Int32} (hd : decode M.2.1 pc = .ok (.invokestatic idx, 3)) (hl : Cond.methodLink M.1.cls idx Lib.Math.max.name ∈ gw) (hst9 : Cond.static Lib.Math.max.name ∈ gw) (hini9 : Cond.initialized "java/lang/Math" ∈ gw) (hco : Cond.code Lib.Math.max.name Lib.Math.max.code 2 (some .int) ∈ gw) (hlv : 1 ≤ lv) (hwt : (st.map fun v => v.category).sum ≤ 8) (k : X M lv K T rc rs (pc + 3) ls (.int (if x < y then y else x) :: st) h) : X M lv K T rc rs pc ls (.int y :: .int x :: st) h := by
  intro p l e R s m args below meth c D tc A n0 ad0 h0 Q ad H locs cells slots la C hR hE hst hls hla hc hs eR eT
  obtain ⟨hx, hb, hml, hret, hts, hown, hlk, htab, hns, hini, hfr, hlo⟩ := id C
  have hw9 := wt_eq ad hwt
  exact va_mmax hx hb (hml.trans hla.1.symm) hown (hts _ hl) (hts _ hst9) (hts _ hini9) (hts _ hco) (by omega) (by omega) (by omega) (by omega) hd (k p l e R s m args below meth c D tc A n0 ad0 h0 Q ad H locs cells slots la C hR hE (List.forall_mem_cons.mpr ⟨trivial, fun v hv => hst v (List.mem_cons_of_mem _ (List.mem_cons_of_mem _ hv))⟩) hls hla hc hs eR eT)
theorem X_mmin {idx : Nat} {x y : Int32} (hd : decode M.2.1 pc = .ok (.invokestatic idx, 3)) (hl : Cond.methodLink M.1.cls idx Lib.Math.min.name ∈ gw) (hst9 : Cond.static Lib.Math.min.name ∈ gw) (hini9 : Cond.initialized "java/lang/Math" ∈ gw) (hco : Cond.code Lib.Math.min.name Lib.Math.min.code 2 (some .int) ∈ gw) (hlv : 1 ≤ lv) (hwt : (st.map fun v => v.category).sum ≤ 8) (k : X M lv K T rc rs (pc + 3) ls (.int (if y < x then y else x) :: st) h) : X M lv K T rc rs pc ls (.int y :: .int x :: st) h := by
  intro p l e R s m args below meth c D tc A n0 ad0 h0 Q ad H locs cells slots la C hR hE hst hls hla hc hs eR eT
  obtain ⟨hx, hb, hml, hret, hts, hown, hlk, htab, hns, hini, hfr, hlo⟩ := id C
  have hw9 := wt_eq ad hwt
  exact va_mmin hx hb (hml.trans hla.1.symm) hown (hts _ hl) (hts _ hst9) (hts _ hini9) (hts _ hco) (by omega) (by omega) (by omega) (by omega) hd (k p l e R s m args below meth c D tc A n0 ad0 h0 Q ad H locs cells slots la C hR hE (List.forall_mem_cons.mpr ⟨trivial, fun v hv => hst v (List.mem_cons_of_mem _ (List.mem_cons_of_mem _ hv))⟩) hls hla hc hs eR eT)
/-- a whole array of numbers written anew -/
def uA (h : AH) (a : Nat) (f : Nat → Int32) : AH := (h.1, fun b => if b = a then f else h.2.1 b, h.2.2)
theorem mI_uA (h : AH) (a b i : Nat) (f : Nat → Int32) : mI (uA h a f) b i = if b = a then f i else mI h b i := by
  unfold mI uA
  simp only
  split <;> rfl
theorem mS_uA (h : AH) (a : Nat) (f : Nat → Int32) : mS (uA h a f) = mS h := rfl
theorem mR_uA (h : AH) (a : Nat) (f : Nat → Int32) : mR (uA h a f) = mR h := rfl
theorem mL_uA (h : AH) (a : Nat) (f : Nat → Int32) : mL (uA h a f) = mL h := rfl
theorem mN_uA (h : AH) (a : Nat) (f : Nat → Int32) : mN (uA h a f) = mN h := rfl
theorem mI_uAo {h : AH} {a b : Nat} {f : Nat → Int32} (hb : b ≠ a) : mI (uA h a f) b = mI h b := if_neg hb
theorem ce_uA {tc : Nat → ClassId} {ad : Nat → Nat} {h : AH} {a b : Nat} {f : Nat → Int32} (hb : b ≠ a) : ce_ tc ad (uA h a f) b = ce_ tc ad h b := by
  simp only [ce_, fs_, ar_, fv, mS_uA, mR_uA, mL_uA, mI_uAo hb]
theorem sameS.uA {h : AH} {a : Nat} (ha : nZ ≤ a) (f : Nat → Int32) : sameS h (uA h a f) := fun k hk => ⟨rfl, mI_uAo (by omega), rfl, rfl⟩
theorem X_copy {idx t a0 a1 n0 n1 : Nat} {sp dp n : Int32} (hd : decode M.2.1 pc = .ok (.invokestatic idx, 3)) (hl : Cond.methodLink M.1.cls idx arraycopyName ∈ gw) (hn9 : Cond.native arraycopyName ∈ gw) (hst9 : Cond.static arraycopyName ∈ gw) (hini9 : Cond.initialized "java/lang/System" ∈ gw) (hlv : 1 ≤ lv) (hwt : (st.map fun v => v.category).sum ≤ 8)
    (ht : t = 0 ∨ t = 3) (ho0 : mS h a0 = (100 + t, n0)) (ho1 : mS h a1 = (100 + t, n1)) (hz0 : nZ ≤ a0) (hz1 : nZ ≤ a1) (h1 : ¬ sp < 0) (h2 : ¬ dp < 0) (h3 : ¬ n < 0) (h4 : sp.toNatClampNeg + n.toNatClampNeg ≤ n0) (h5 : dp.toNatClampNeg + n.toNatClampNeg ≤ n1) (hfit : ∀ i, i < n.toNatClampNeg → fits (ty_ t) (.int (mI h a0 (sp.toNatClampNeg + i))) = true)
    (k : X M lv K T rc rs (pc + 3) ls st (uA h a1 (va_cpy (mI h a0) (mI h a1) sp.toNatClampNeg dp.toNatClampNeg n.toNatClampNeg))) : X M lv K T rc rs pc ls (.int n :: .int dp :: .ref a1 :: .int sp :: .ref a0 :: st) h := by
  intro p l e R s m args below meth c D tc A n9 ad0 h0 Q ad H locs cells slots la C hR hE hst hls hla hc hs eR eT
  obtain ⟨hx, hb, hml, hret, hts, hown, hlk, htab, hns, hini, hfr, hlo⟩ := id C
  obtain ⟨r1, r2, r3, r4, r5, r6, r7⟩ := id hR
  have hlt0 := r7.lt ho0 (by omega)
  have hlt1 := r7.lt ho1 (by omega)
  have hw9 := wt_eq ad hwt
  rw [List.map_cons, List.map_cons, List.map_cons, List.map_cons, List.map_cons, cv_ref (nz_ne hz0), cv_ref (nz_ne hz1)]
  have he0 := dyn_get (tc := tc) (ad := ad) hz0 hlt0
  rw [ce_arr ho0] at he0
  have he1 := dyn_get (tc := tc) (ad := ad) hz1 hlt1
  rw [ce_arr ho1] at he1
  have ea : ∀ a n, ar_ ad h a t n = (n, .inl (mI h a)) := fun a n => by
    unfold ar_
    rcases ht with rfl | rfl <;> rfl
  rw [ea] at he0 he1
  have ht9 : (tys tc)[t]? = some (tc t, ty_ t) := by rcases ht with rfl | rfl <;> rfl
  refine va_copyi hx hb (hml.trans hla.1.symm) hown (hts _ hl) (hts _ hn9) (hts _ hst9) (hts _ hini9) r1 r2 r3 r4 (a0 - nZ) (a1 - nZ) t t he0 he1 ht9 ht9 (by rcases ht with rfl | rfl <;> rfl) h1 h2 h3 h4 h5 hfit (by omega) (by
    have : nativeFrameWords "java/lang/System" "arraycopy" 5 ≤ 16 := by decide +kernel
    omega) hd (fun H1 locs1 hP hD hS1 => ?_)
  have hR1 : Rel D tc A ad (uA h a1 (va_cpy (mI h a0) (mI h a1) sp.toNatClampNeg dp.toNatClampNeg n.toNatClampNeg)) s H1 locs1 := hR.put hP hD hS1 (by
    rw [ce_arr (h := uA h a1 _) (a := a1) (n := n1) ho1]
    unfold ar_
    have e9 : ∀ f, mI (uA h a1 f) a1 = f := fun f => if_pos rfl
    rw [e9]
    rcases ht with rfl | rfl <;> rfl) rfl hz1 hlt1 (fun b hb => ce_uA hb) r7 (sameS.uA hz1 _)
  exact k p l e R s m args below meth c D tc A n9 ad0 h0 Q ad H1 locs1 cells slots la C hR1 (hE.put rfl (sameS.uA hz1 _)) (fun v hv => hst v (by simp only [List.mem_cons]; exact Or.inr (Or.inr (Or.inr (Or.inr (Or.inr hv)))))) hls hla hc hs eR eT
end MO
