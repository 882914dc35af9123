/-! X: FROM THIS POINT OF A METHOD EVERY RUN ENDS AS K (RETURN) OR T (THROW) SAYS; Cn: A METHOD'S CONTRACT IN THE SAME WORDS -/
/-- 'selects' of StringBuilder for private methods of its superclass (shown at the law's entry) -/
def xsl : List MethodName := [yJ5_ensureCapacityInternal_d00df, yJ5_newCapacity_0f7a4, yJ5_putStringAt_47b60, yJ5_inflateIfNeededFor_a7421]
def xse : List Cond := xsl.map (fun y => .selects RJ4 y y)
def gw : List Cond := (lw_tbl ++ xse).filter goodWord
theorem gw_of {w : Cond} (h : w ∈ lw_tbl) (g : goodWord w = true) : w ∈ gw := List.mem_filter.mpr ⟨List.mem_append_left _ h, g⟩
theorem gw_ofx {w : Cond} (h : w ∈ xse) (g : goodWord w = true) : w ∈ gw := List.mem_filter.mpr ⟨List.mem_append_right _ h, g⟩
theorem gw_good {w : Cond} (h : w ∈ gw) : (w.onTables && w.keeps) = true ∨ ∃ ty, w = .arrayClass ty := good_of_word (List.mem_filter.mp h).2
abbrev Mt : Type := MethodName × ByteArray × Nat × Option FieldType × List (Nat × Nat × Nat × Nat)
def Cx (M : Mt) (lv : Nat) (p : Program) (l : Launch) (R : Room) (s : State) (m : MethodId) (args : Array Value) (meth : Method) (c : Code) : Prop :=
  p.tables.exec = Jvm.exec ∧ c.code = M.2.1 ∧ c.maxLocals = M.2.2.1 ∧ meth.sig.returnType = M.2.2.2.1 ∧ (∀ w ∈ gw, w.before args s = true) ∧ s.vm.findClass M.1.cls = some m.cls ∧ meth.locks = false ∧ c.exceptionTable.toList = tableOf M.2.2.2.2 ∧ l.stackTraces = false ∧ (M.1.name = "<init>" → meth.name = "<init>") ∧ lv ≤ R.frames ∧ 40 * lv ≤ R.locals
def rok (M : Mt) (pc : Nat) (v : Option Value) : Prop := match v with
  | none => decode M.2.1 pc = .ok (.return_, 1) ∧ M.2.2.2.1 = none
  | some (.int x) => decode M.2.1 pc = .ok (.ireturn, 1) ∧ ∃ ty, M.2.2.2.1 = some ty ∧ narrow ty (.int x) = .int x
  | some (.long _) => decode M.2.1 pc = .ok (.lreturn, 1) ∧ M.2.2.2.1 = some .long
  | some (.float _) => decode M.2.1 pc = .ok (.freturn, 1) ∧ M.2.2.2.1 = some .float
  | some (.double _) => decode M.2.1 pc = .ok (.dreturn, 1) ∧ M.2.2.2.1 = some .double
  | some (.ref _) => decode M.2.1 pc = .ok (.areturn, 1) ∧ ((∃ n, M.2.2.2.1 = some (.object n)) ∨ ∃ n, M.2.2.2.1 = some (.array n))
  | _ => False
def Ext (n0 : Nat) (ad0 : Nat → Nat) (h0 : AH) (ad : Nat → Nat) (h : AH) : Prop := n0 ≤ mN h ∧ (∀ k, k < n0 → ad k = ad0 k) ∧ sameS h0 h
def EndR (M : Mt) (K : Option Value → AH → Prop) (p : Program) (l : Launch) (e : Env) (R : Room) (s : State) (m : MethodId) (args : Array Value) (below : List Frame) (meth : Method) (c : Code) (D : va_G) (tc : Nat → ClassId) (A : Nat → Prop) (n0 : Nat) (ad0 : Nat → Nat) (h0 : AH) (Q : State → Prop) : Prop :=
  ∀ (ad : Nat → Nat) (h : AH) (H : Heap) (locs : List Loc) (cells slots : Nat) (v : Option Value) (pc : Nat) (la : Array Slot), Rel D tc A ad h s H locs → Ext n0 ad0 h0 ad h → (∀ x ∈ v.toList, vok h x) → K v h → cells ≤ R.cells → slots ≤ R.slots → rok M pc v → W p l e R s m args below meth c H locs cells slots Q (F0 m pc la (v.toList.map (cv ad)))
def Wt (D : va_G) (tc : Nat → ClassId) (A : Nat → Prop) (n0 : Nat) (ad0 : Nat → Nat) (h0 : AH) (ad : Nat → Nat) (h : AH) (t : State) : Prop := va_P D CL (dyn tc ad h) t.heap ∧ va_D A (dyn tc ad h) ∧ wf h ∧ Ext n0 ad0 h0 ad h
def EndT (T : String → AH → Prop) (p : Program) (l : Launch) (e : Env) (R : Room) (s : State) (m : MethodId) (args : Array Value) (below : List Frame) (meth : Method) (c : Code) (D : va_G) (tc : Nat → ClassId) (A : Nat → Prop) (n0 : Nat) (ad0 : Nat → Nat) (h0 : AH) (Q : State → Prop) : Prop :=
  ∀ U : State, vx_MQ below (fun _ _ _ _ => False) (fun E st t => (∃ (h : AH) (ad : Nat → Nat), T E h ∧ Wt D tc A n0 ad0 h0 ad h t) ∧ va_F A st t) args s R.cells R.slots A U → Q U
def cvl (ad : Nat → Nat) (ls : List (Nat × Value)) : List (Nat × Value) := ls.map (fun q => (q.1, cv ad q.2))
def X (M : Mt) (lv : Nat) (K : Option Value → AH → Prop) (T : String → AH → Prop) (rc rs pc : Nat) (ls : List (Nat × Value)) (st : List Value) (h : AH) : Prop :=
  ∀ (p : Program) (l : Launch) (e : Env) (R : Room) (s : State) (m : MethodId) (args : Array Value) (below : List Frame) (meth : Method) (c : Code) (D : va_G) (tc : Nat → ClassId) (A : Nat → Prop) (n0 : Nat) (ad0 : Nat → Nat) (h0 : AH) (Q : State → Prop) (ad : Nat → Nat) (H : Heap) (locs : List Loc) (cells slots : Nat) (la : Array Slot),
    Cx M lv p l R s m args meth c → Rel D tc A ad h s H locs → Ext n0 ad0 h0 ad h → (∀ v ∈ st, vok h v) → (∀ q ∈ ls, vok h q.2) → lv_has la M.2.2.1 (cvl ad ls) → cells + rc ≤ R.cells → slots + rs ≤ R.slots →
    EndR M K p l e R s m args below meth c D tc A n0 ad0 h0 Q → EndT T p l e R s m args below meth c D tc A n0 ad0 h0 Q → W p l e R s m args below meth c H locs cells slots Q (F0 m pc la (st.map (cv ad)))
/-- .. thrown here: an object of the kind E -/
def XT (M : Mt) (lv : Nat) (K : Option Value → AH → Prop) (T : String → AH → Prop) (rc rs : Nat) (E : String) (pc : Nat) (ls : List (Nat × Value)) (h : AH) : Prop :=
  ∀ (p : Program) (l : Launch) (e : Env) (R : Room) (s : State) (m : MethodId) (args : Array Value) (below : List Frame) (meth : Method) (c : Code) (D : va_G) (tc : Nat → ClassId) (A : Nat → Prop) (n0 : Nat) (ad0 : Nat → Nat) (h0 : AH) (Q : State → Prop) (ad : Nat → Nat) (H : Heap) (locs : List Loc) (cells slots : Nat) (la : Array Slot) (q : Addr) (ce : Cell) (st : List Value),
    Cx M lv p l R s m args meth c → Rel D tc A ad h s H locs → Ext n0 ad0 h0 ad h → (∀ q ∈ ls, vok h q.2) → lv_has la M.2.2.1 (cvl ad ls) → cells + rc ≤ R.cells → slots + rs ≤ R.slots → H[q]? = some ce → ce.vm = .none → s.vm.findClass E = some ce.cls →
    EndR M K p l e R s m args below meth c D tc A n0 ad0 h0 Q → EndT T p l e R s m args below meth c D tc A n0 ad0 h0 Q → vx_W p l e R s m args below meth c H locs cells slots Q (F0 m pc la st) q
def Qr (D : va_G) (tc : Nat → ClassId) (ad : Nat → Nat) (h : AH) (sz : Nat) (K : Option Value → AH → Prop) : Array Value → State → Outcome → State → Prop := fun _ st oc t =>
  (∃ (v : Option Value) (h' : AH) (ad' : Nat → Nat), oc = .returned (v.map (cv ad')) ∧ K v h' ∧ (∀ x ∈ v.toList, vok h' x) ∧ Wt D tc (Af ad h sz) (mN h) ad h ad' h' t) ∧ va_F (Af ad h sz) st t
def Qx (D : va_G) (tc : Nat → ClassId) (ad : Nat → Nat) (h : AH) (sz : Nat) (T : String → AH → Prop) : String → State → State → Prop := fun E st t =>
  (∃ (h' : AH) (ad' : Nat → Nat), T E h' ∧ Wt D tc (Af ad h sz) (mN h) ad h ad' h' t) ∧ va_F (Af ad h sz) st t
def Pcn (D : va_G) (tc : Nat → ClassId) (ad : Nat → Nat) (h : AH) (sz : Nat) (as : List Value) : Array Value → State → Prop := va_Pc (as.map (cv ad)) (fun U => U.heap.size = sz ∧ Rel D tc (Af ad h sz) ad h U U.heap [] ∧ ∀ v ∈ as, vok h v)
def Cn (M : Mt) (cw : Cond) (lv mc ms : Nat) (as : List Value) (h : AH) (K : Option Value → AH → Prop) (T : String → AH → Prop) : Prop :=
  ∀ (l : Launch), l.stackTraces = false → ∀ (D : va_G) (tc : Nat → ClassId) (ad : Nat → Nat) (sz : Nat),
    vx_Met l M.1 (cw :: gw) ({ frames := lv, cells := mc, slots := ms, locals := 40 * lv } : Room) (Pcn D tc ad h sz as) (Qr D tc ad h sz K) (Qx D tc ad h sz T) mc ms (Af ad h sz)
theorem cvl_args (ad : Nat → Nat) : ∀ (as : List Value) (i : Nat), lv_args i (as.map (cv ad)) = cvl ad (lv_args i as)
  | [], _ => rfl
  | v :: vs, i => by
    simp only [List.map_cons, lv_args, cv_cat, cvl]
    refine congrArg _ ?_
    exact cvl_args ad vs _
theorem lg_len (ad : Nat → Nat) (as : List Value) : (lg_sl (as.map (cv ad))).length = (lg_sl as).length := by
  induction as with
  | nil => rfl
  | cons v vs ih =>
    unfold lg_sl at ih ⊢
    simp only [List.map_cons, List.flatMap_cons, List.length_append, cv_cat, ih]
    split <;> rfl
theorem endR_of {M : Mt} {K : Option Value → AH → Prop} {XC : String → State → State → Prop} {p : Program} {l : Launch} {e : Env} {R : Room} {s : State} {m : MethodId} {args : Array Value} {below : List Frame} {meth : Method} {c : Code} {D : va_G} {tc : Nat → ClassId} {ad0 : Nat → Nat} {h0 : AH} {sz mc ms lv : Nat}
    (C : Cx M lv p l R s m args meth c) (hc : R.cells = mc) (hs : R.slots = ms) : EndR M K p l e R s m args below meth c D tc (Af ad0 h0 sz) (mN h0) ad0 h0 (vx_MQ below (Qr D tc ad0 h0 sz K) XC args s mc ms (Af ad0 h0 sz)) := by
  intro ad h H locs cells slots v pc la hR hE hv hK h1 h2 hr
  obtain ⟨hx, hb, hml, hret, hts, hown, hlk, -⟩ := C
  obtain ⟨r1, r2, r3, r4, r5, r6, r7⟩ := hR
  refine vx_ret ?_
  refine W.widen (k := mc) (n := ms) (by omega) (by omega) ?_
  have hq : ∀ t : State, t.heap = H → s.WarmedH t.vm → Qr D tc ad0 h0 sz K args s (.returned (v.map (cv ad))) t := fun t ht hW => ⟨⟨v, h, ad, rfl, hK, hv, by rw [ht]; exact r2, r3, r7, hE⟩, r4.F ht⟩
  cases v with
  | none => exact W.vret hx hb (hret.trans hr.2) hq r4.2.2 hr.1
  | some w =>
    cases w with
    | int x =>
      obtain ⟨d, ty, e1, e2⟩ := hr
      exact W.zret hx hb (hret.trans e1) e2 hq r4.2.2 d
    | long x => exact W.lret hx hb (hret.trans hr.2) hq r4.2.2 hr.1
    | float x => exact W.fret hx hb (hret.trans hr.2) hq r4.2.2 hr.1
    | double x => exact W.dret hx hb (hret.trans hr.2) hq r4.2.2 hr.1
    | ref a =>
      obtain ⟨d, e1⟩ := hr
      have hz : cv ad (.ref a) = .null ∨ ∃ b, cv ad (.ref a) = .ref b := by
        unfold cv
        by_cases z : a = 0
        · exact Or.inl (by simp [z])
        · exact Or.inr ⟨ad a, by simp [z]⟩
      rcases e1 with ⟨n, e1⟩ | ⟨n, e1⟩
      · exact W.aret hx hb (hret.trans e1) (Or.inl ⟨n, rfl⟩) hz hq r4.2.2 d
      · exact W.aret hx hb (hret.trans e1) (Or.inr ⟨n, rfl⟩) hz hq r4.2.2 d
    | _ => exact hr.elim
theorem endT_of {T : String → AH → Prop} {Qc : Array Value → State → Outcome → State → Prop} {p : Program} {l : Launch} {e : Env} {R : Room} {s : State} {m : MethodId} {args : Array Value} {below : List Frame} {meth : Method} {c : Code} {D : va_G} {tc : Nat → ClassId} {ad0 : Nat → Nat} {h0 : AH} {sz mc ms : Nat}
    (hc : R.cells = mc) (hs : R.slots = ms) : EndT T p l e R s m args below meth c D tc (Af ad0 h0 sz) (mN h0) ad0 h0 (vx_MQ below Qc (Qx D tc ad0 h0 sz T) args s mc ms (Af ad0 h0 sz)) := by
  intro U ⟨o, h1, h2, h3⟩
  refine ⟨o, h1, h2, ?_⟩
  rcases h3 with ⟨z, -⟩ | ⟨q, e1, E, ce, L, hX, g1, g2, g3, g4, g5, g6⟩
  · exact z.elim
  · rw [hc, hs] at g5
    exact Or.inr ⟨q, e1, E, ce, L, hX, g1, g2, g3, g4, g5, g6⟩
theorem Cn_of {M : Mt} {lv mc ms : Nat} {as : List Value} {h : AH} {K : Option Value → AH → Prop} {T : String → AH → Prop} (hy : plainName M.1.cls = true) (ht : M.2.2.2.2 = []) (hlen : (lg_sl as).length ≤ M.2.2.1)
    (hX : X M lv K T mc ms 0 (lv_args 0 as) [] h) : Cn M (.code M.1 M.2.1 M.2.2.1 M.2.2.2.1) lv mc ms as h K T := by
  intro l hl D tc ad sz
  refine vx_ofW (cc := M.2.1) (maxL := M.2.2.1) (ret := M.2.2.2.1) hy rfl ?_
  intro p e s m args below meth c s₁ B hml htab hv
  obtain ⟨rfl, hsz, hR, hok⟩ := hv
  have hts := atoms_spec (ws := Cond.code M.1 M.2.1 M.2.2.1 M.2.2.2.1 :: gw) B.pre
  have hC : Cx M lv p l ({ frames := lv, cells := mc, slots := ms, locals := 40 * lv } : Room) s m ((as.map (cv ad)).toArray) meth c := ⟨B.exec, B.bytes, hml, B.returns, fun w hw => hts w (List.mem_cons_of_mem _ hw), findClass_of_methodNamed B.named, B.notSynchronized, by rw [ht]; exact List.eq_nil_iff_forall_not_mem.mpr (fun x hx => htab x hx), hl, fun hi => (name_of_methodNamed B.named B.method).1.trans hi, Nat.le_refl _, Nat.le_refl _⟩
  have hent := lv_entry (as.map (cv ad)) (n := M.2.2.1) (by rw [lg_len]; exact hlen)
  rw [lg_entry_eq]
  rw [cvl_args] at hent
  exact hX p l e _ s m _ below meth c D tc (Af ad h sz) (mN h) ad h _ ad s.heap [] 0 0 _ hC hR ⟨Nat.le_refl _, fun _ _ => rfl, sameS.rf h⟩ (fun v hv => absurd hv List.not_mem_nil) (fun q hq => hok q.2 (by
    have key : ∀ (as : List Value) (i : Nat) (q : Nat × Value), q ∈ lv_args i as → q.2 ∈ as := by
      intro as
      induction as with
      | nil => intro i q hq; cases hq
      | cons v vs ih =>
        intro i q hq
        rcases List.mem_cons.mp hq with rfl | hq
        · exact List.mem_cons_self
        · exact List.mem_cons_of_mem _ (ih _ q hq)
    exact key as 0 q hq)) hent (by show 0 + mc ≤ mc; omega) (by show 0 + ms ≤ ms; omega) (endR_of hC rfl rfl) (endT_of rfl rfl)
theorem CnH_of {M : Mt} {lv mc ms : Nat} {as : List Value} {h : AH} {K : Option Value → AH → Prop} {T : String → AH → Prop} (hy : plainName M.1.cls = true) (hlen : (lg_sl as).length ≤ M.2.2.1)
    (hX : X M lv K T mc ms 0 (lv_args 0 as) [] h) : Cn M (.codeWith M.1 M.2.1 M.2.2.1 M.2.2.2.1 M.2.2.2.2) lv mc ms as h K T := by
  intro l hl D tc ad sz
  refine vx_ofWH (cc := M.2.1) (maxL := M.2.2.1) (ret := M.2.2.2.1) (hh := M.2.2.2.2) hy rfl ?_
  intro p e s m args below meth c s₁ B hml hv
  obtain ⟨rfl, hsz, hR, hok⟩ := hv
  have hts := atoms_spec (ws := Cond.codeWith M.1 M.2.1 M.2.2.1 M.2.2.2.1 M.2.2.2.2 :: gw) B.pre
  have hC : Cx M lv p l ({ frames := lv, cells := mc, slots := ms, locals := 40 * lv } : Room) s m ((as.map (cv ad)).toArray) meth c := ⟨B.exec, B.bytes, hml, B.returns, fun w hw => hts w (List.mem_cons_of_mem _ hw), findClass_of_methodNamed B.named, B.notSynchronized, vx_table (x := M.1) B (hts _ List.mem_cons_self), hl, fun hi => (name_of_methodNamed B.named B.method).1.trans hi, Nat.le_refl _, Nat.le_refl _⟩
  have hent := lv_entry (as.map (cv ad)) (n := M.2.2.1) (by rw [lg_len]; exact hlen)
  rw [lg_entry_eq]
  rw [cvl_args] at hent
  exact hX p l e _ s m _ below meth c D tc (Af ad h sz) (mN h) ad h _ ad s.heap [] 0 0 _ hC hR ⟨Nat.le_refl _, fun _ _ => rfl, sameS.rf h⟩ (fun v hv => absurd hv List.not_mem_nil) (fun q hq => hok q.2 (by
    have key : ∀ (as : List Value) (i : Nat) (q : Nat × Value), q ∈ lv_args i as → q.2 ∈ as := by
      intro as
      induction as with
      | nil => intro i q hq; cases hq
      | cons v vs ih =>
        intro i q hq
        rcases List.mem_cons.mp hq with rfl | hq
        · exact List.mem_cons_self
        · exact List.mem_cons_of_mem _ (ih _ q hq)
    exact key as 0 q hq)) hent (by show 0 + mc ≤ mc; omega) (by show 0 + ms ≤ ms; omega) (endR_of hC rfl rfl) (endT_of rfl rfl)
