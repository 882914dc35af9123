section
-- ===== PART A: goes FIRST, ahead of the names: the tables' words, and 'selects' of the private methods out of them =====
/-- a private method of a class that the tables say can be made, by its rows of tables_1 -/
def lw_okq (q : MethodName × Nat) : Prop := (q.1.cls ≠ "java/lang/invoke/MethodHandle" ∧ q.1.cls ≠ "java/lang/invoke/VarHandle") ∧ Cond.instantiable q.1.cls q.2 ∈ tables_1 ∧ Cond.privateMethod q.1 ∈ tables_1 ∧ Cond.instanceMethod q.1 ∈ tables_1
theorem lw_p0 : lw_okq (⟨"java/lang/Throwable", "fillInStackTrace", "(I)Ljava/lang/Throwable;"⟩, 6) := ⟨⟨by decide +kernel, by decide +kernel⟩, List.mem_of_getElem? (i := 413) (by decide +kernel), List.mem_of_getElem? (i := 411) (by decide +kernel), List.mem_of_getElem? (i := 412) (by decide +kernel)⟩
theorem lw_p1 : lw_okq (⟨"InterlockingBox", "checkBlock", "(I)V"⟩, 12) := ⟨⟨by decide +kernel, by decide +kernel⟩, List.mem_of_getElem? (i := 36) (by decide +kernel), List.mem_of_getElem? (i := 462) (by decide +kernel), List.mem_of_getElem? (i := 463) (by decide +kernel)⟩
theorem lw_p2 : lw_okq (⟨"InterlockingBox", "checkRoute", "(II)V"⟩, 12) := ⟨⟨by decide +kernel, by decide +kernel⟩, List.mem_of_getElem? (i := 36) (by decide +kernel), List.mem_of_getElem? (i := 510) (by decide +kernel), List.mem_of_getElem? (i := 511) (by decide +kernel)⟩
theorem lw_p3 : lw_okq (⟨"InterlockingBox", "presentTrain", "(I)LInterlockingBox$Train;"⟩, 12) := ⟨⟨by decide +kernel, by decide +kernel⟩, List.mem_of_getElem? (i := 36) (by decide +kernel), List.mem_of_getElem? (i := 547) (by decide +kernel), List.mem_of_getElem? (i := 548) (by decide +kernel)⟩
theorem lw_p4 : lw_okq (⟨"InterlockingBox", "routedTrain", "(I)LInterlockingBox$Train;"⟩, 12) := ⟨⟨by decide +kernel, by decide +kernel⟩, List.mem_of_getElem? (i := 36) (by decide +kernel), List.mem_of_getElem? (i := 590) (by decide +kernel), List.mem_of_getElem? (i := 591) (by decide +kernel)⟩
theorem lw_p5 : lw_okq (⟨"InterlockingBox$Line", "learnRoutes", "()V"⟩, 12) := ⟨⟨by decide +kernel, by decide +kernel⟩, List.mem_of_getElem? (i := 50) (by decide +kernel), List.mem_of_getElem? (i := 693) (by decide +kernel), List.mem_of_getElem? (i := 694) (by decide +kernel)⟩
theorem lw_p6 : lw_okq (⟨"InterlockingBox$Line", "learnRoutesTo", "(I)V"⟩, 12) := ⟨⟨by decide +kernel, by decide +kernel⟩, List.mem_of_getElem? (i := 50) (by decide +kernel), List.mem_of_getElem? (i := 697) (by decide +kernel), List.mem_of_getElem? (i := 698) (by decide +kernel)⟩
theorem lw_p7 : lw_okq (⟨"InterlockingBox$Line", "nearestBlock", "(I)I"⟩, 12) := ⟨⟨by decide +kernel, by decide +kernel⟩, List.mem_of_getElem? (i := 50) (by decide +kernel), List.mem_of_getElem? (i := 705) (by decide +kernel), List.mem_of_getElem? (i := 706) (by decide +kernel)⟩
theorem lw_p8 : lw_okq (⟨"InterlockingBox", "settle", "(I)I"⟩, 12) := ⟨⟨by decide +kernel, by decide +kernel⟩, List.mem_of_getElem? (i := 36) (by decide +kernel), List.mem_of_getElem? (i := 713) (by decide +kernel), List.mem_of_getElem? (i := 714) (by decide +kernel)⟩
theorem lw_p9 : lw_okq (⟨"InterlockingBox$State", "joinQueue", "(I)V"⟩, 9) := ⟨⟨by decide +kernel, by decide +kernel⟩, List.mem_of_getElem? (i := 44) (by decide +kernel), List.mem_of_getElem? (i := 886) (by decide +kernel), List.mem_of_getElem? (i := 887) (by decide +kernel)⟩
theorem lw_p10 : lw_okq (⟨"InterlockingBox", "grantOrRecord", "(I)I"⟩, 12) := ⟨⟨by decide +kernel, by decide +kernel⟩, List.mem_of_getElem? (i := 36) (by decide +kernel), List.mem_of_getElem? (i := 898) (by decide +kernel), List.mem_of_getElem? (i := 899) (by decide +kernel)⟩
theorem lw_p11 : lw_okq (⟨"InterlockingBox$State", "leaveQueue", "(I)V"⟩, 9) := ⟨⟨by decide +kernel, by decide +kernel⟩, List.mem_of_getElem? (i := 44) (by decide +kernel), List.mem_of_getElem? (i := 908) (by decide +kernel), List.mem_of_getElem? (i := 909) (by decide +kernel)⟩
theorem lw_p12 : lw_okq (⟨"InterlockingBox$State", "reserveRoute", "(LInterlockingBox$Train;)V"⟩, 9) := ⟨⟨by decide +kernel, by decide +kernel⟩, List.mem_of_getElem? (i := 44) (by decide +kernel), List.mem_of_getElem? (i := 912) (by decide +kernel), List.mem_of_getElem? (i := 913) (by decide +kernel)⟩
theorem lw_p13 : lw_okq (⟨"InterlockingBox", "recordRefusal", "(LInterlockingBox$Train;)V"⟩, 12) := ⟨⟨by decide +kernel, by decide +kernel⟩, List.mem_of_getElem? (i := 36) (by decide +kernel), List.mem_of_getElem? (i := 920) (by decide +kernel), List.mem_of_getElem? (i := 921) (by decide +kernel)⟩
theorem lw_p14 : lw_okq (⟨"InterlockingBox$Program", "parseCommand", "(I)I"⟩, 6) := ⟨⟨by decide +kernel, by decide +kernel⟩, List.mem_of_getElem? (i := 236) (by decide +kernel), List.mem_of_getElem? (i := 1205) (by decide +kernel), List.mem_of_getElem? (i := 1206) (by decide +kernel)⟩
theorem lw_p15 : lw_okq (⟨"InterlockingBox$Program", "match", "(Ljava/lang/String;I)I"⟩, 6) := ⟨⟨by decide +kernel, by decide +kernel⟩, List.mem_of_getElem? (i := 236) (by decide +kernel), List.mem_of_getElem? (i := 1211) (by decide +kernel), List.mem_of_getElem? (i := 1212) (by decide +kernel)⟩
def lw_privs_1 : List (MethodName × Nat) := [(⟨"java/lang/Throwable", "fillInStackTrace", "(I)Ljava/lang/Throwable;"⟩, 6), (⟨"InterlockingBox", "checkBlock", "(I)V"⟩, 12), (⟨"InterlockingBox", "checkRoute", "(II)V"⟩, 12), (⟨"InterlockingBox", "presentTrain", "(I)LInterlockingBox$Train;"⟩, 12), (⟨"InterlockingBox", "routedTrain", "(I)LInterlockingBox$Train;"⟩, 12), (⟨"InterlockingBox$Line", "learnRoutes", "()V"⟩, 12), (⟨"InterlockingBox$Line", "learnRoutesTo", "(I)V"⟩, 12), (⟨"InterlockingBox$Line", "nearestBlock", "(I)I"⟩, 12), (⟨"InterlockingBox", "settle", "(I)I"⟩, 12), (⟨"InterlockingBox$State", "joinQueue", "(I)V"⟩, 9), (⟨"InterlockingBox", "grantOrRecord", "(I)I"⟩, 12), (⟨"InterlockingBox$State", "leaveQueue", "(I)V"⟩, 9), (⟨"InterlockingBox$State", "reserveRoute", "(LInterlockingBox$Train;)V"⟩, 9), (⟨"InterlockingBox", "recordRefusal", "(LInterlockingBox$Train;)V"⟩, 12), (⟨"InterlockingBox$Program", "parseCommand", "(I)I"⟩, 6), (⟨"InterlockingBox$Program", "match", "(Ljava/lang/String;I)I"⟩, 6)]
theorem lw_r1 : ∀ q ∈ lw_privs_1, lw_okq q := List.forall_mem_cons.mpr ⟨lw_p0, List.forall_mem_cons.mpr ⟨lw_p1, List.forall_mem_cons.mpr ⟨lw_p2, List.forall_mem_cons.mpr ⟨lw_p3, List.forall_mem_cons.mpr ⟨lw_p4, List.forall_mem_cons.mpr ⟨lw_p5, List.forall_mem_cons.mpr ⟨lw_p6, List.forall_mem_cons.mpr ⟨lw_p7, List.forall_mem_cons.mpr ⟨lw_p8, List.forall_mem_cons.mpr ⟨lw_p9, List.forall_mem_cons.mpr ⟨lw_p10, List.forall_mem_cons.mpr ⟨lw_p11, List.forall_mem_cons.mpr ⟨lw_p12, List.forall_mem_cons.mpr ⟨lw_p13, List.forall_mem_cons.mpr ⟨lw_p14, List.forall_mem_cons.mpr ⟨lw_p15, fun _ h => absurd h List.not_mem_nil⟩⟩⟩⟩⟩⟩⟩⟩⟩⟩⟩⟩⟩⟩⟩⟩
theorem lw_p16 : lw_okq (⟨"InterlockingBox$Program", "digitsAt", "(II)I"⟩, 6) := ⟨⟨by decide +kernel, by decide +kernel⟩, List.mem_of_getElem? (i := 236) (by decide +kernel), List.mem_of_getElem? (i := 1217) (by decide +kernel), List.mem_of_getElem? (i := 1218) (by decide +kernel)⟩
theorem lw_p17 : lw_okq (⟨"InterlockingBox$Program", "isDigit", "(I)Z"⟩, 6) := ⟨⟨by decide +kernel, by decide +kernel⟩, List.mem_of_getElem? (i := 236) (by decide +kernel), List.mem_of_getElem? (i := 1221) (by decide +kernel), List.mem_of_getElem? (i := 1222) (by decide +kernel)⟩
theorem lw_p18 : lw_okq (⟨"InterlockingBox$Program", "isAt", "(IC)Z"⟩, 6) := ⟨⟨by decide +kernel, by decide +kernel⟩, List.mem_of_getElem? (i := 236) (by decide +kernel), List.mem_of_getElem? (i := 1225) (by decide +kernel), List.mem_of_getElem? (i := 1226) (by decide +kernel)⟩
theorem lw_p19 : lw_okq (⟨"InterlockingBox$Program", "noteNumber", "(III)V"⟩, 6) := ⟨⟨by decide +kernel, by decide +kernel⟩, List.mem_of_getElem? (i := 236) (by decide +kernel), List.mem_of_getElem? (i := 1229) (by decide +kernel), List.mem_of_getElem? (i := 1230) (by decide +kernel)⟩
theorem lw_p20 : lw_okq (⟨"InterlockingBox", "execute", "(I)I"⟩, 12) := ⟨⟨by decide +kernel, by decide +kernel⟩, List.mem_of_getElem? (i := 36) (by decide +kernel), List.mem_of_getElem? (i := 1239) (by decide +kernel), List.mem_of_getElem? (i := 1240) (by decide +kernel)⟩
theorem lw_p21 : lw_okq (⟨"InterlockingBox$State", "enterNext", "(LInterlockingBox$Train;)V"⟩, 9) := ⟨⟨by decide +kernel, by decide +kernel⟩, List.mem_of_getElem? (i := 44) (by decide +kernel), List.mem_of_getElem? (i := 1267) (by decide +kernel), List.mem_of_getElem? (i := 1268) (by decide +kernel)⟩
theorem lw_p22 : lw_okq (⟨"InterlockingBox$State", "removeArrived", "()V"⟩, 9) := ⟨⟨by decide +kernel, by decide +kernel⟩, List.mem_of_getElem? (i := 44) (by decide +kernel), List.mem_of_getElem? (i := 1271) (by decide +kernel), List.mem_of_getElem? (i := 1272) (by decide +kernel)⟩
theorem lw_p23 : lw_okq (⟨"InterlockingBox$State", "considerQueue", "()V"⟩, 9) := ⟨⟨by decide +kernel, by decide +kernel⟩, List.mem_of_getElem? (i := 44) (by decide +kernel), List.mem_of_getElem? (i := 1275) (by decide +kernel), List.mem_of_getElem? (i := 1276) (by decide +kernel)⟩
theorem lw_p24 : lw_okq (⟨"InterlockingBox", "checkPoint", "(I)V"⟩, 12) := ⟨⟨by decide +kernel, by decide +kernel⟩, List.mem_of_getElem? (i := 36) (by decide +kernel), List.mem_of_getElem? (i := 1343) (by decide +kernel), List.mem_of_getElem? (i := 1344) (by decide +kernel)⟩
theorem lw_p25 : lw_okq (⟨"InterlockingBox", "writeRestOfRoute", "(LInterlockingBox$Train;)V"⟩, 12) := ⟨⟨by decide +kernel, by decide +kernel⟩, List.mem_of_getElem? (i := 36) (by decide +kernel), List.mem_of_getElem? (i := 1474) (by decide +kernel), List.mem_of_getElem? (i := 1475) (by decide +kernel)⟩
theorem lw_p26 : lw_okq (⟨"InterlockingBox$Relation", "enter", "(I)V"⟩, 7) := ⟨⟨by decide +kernel, by decide +kernel⟩, List.mem_of_getElem? (i := 208) (by decide +kernel), List.mem_of_getElem? (i := 1539) (by decide +kernel), List.mem_of_getElem? (i := 1540) (by decide +kernel)⟩
theorem lw_p27 : lw_okq (⟨"InterlockingBox$Relation", "closeSet", "(I)V"⟩, 7) := ⟨⟨by decide +kernel, by decide +kernel⟩, List.mem_of_getElem? (i := 208) (by decide +kernel), List.mem_of_getElem? (i := 1544) (by decide +kernel), List.mem_of_getElem? (i := 1545) (by decide +kernel)⟩
theorem lw_p28 : lw_okq (⟨"InterlockingBox$Relation", "isUnrelated", "(I)Z"⟩, 7) := ⟨⟨by decide +kernel, by decide +kernel⟩, List.mem_of_getElem? (i := 208) (by decide +kernel), List.mem_of_getElem? (i := 1580) (by decide +kernel), List.mem_of_getElem? (i := 1581) (by decide +kernel)⟩
def lw_privs_2 : List (MethodName × Nat) := [(⟨"InterlockingBox$Program", "digitsAt", "(II)I"⟩, 6), (⟨"InterlockingBox$Program", "isDigit", "(I)Z"⟩, 6), (⟨"InterlockingBox$Program", "isAt", "(IC)Z"⟩, 6), (⟨"InterlockingBox$Program", "noteNumber", "(III)V"⟩, 6), (⟨"InterlockingBox", "execute", "(I)I"⟩, 12), (⟨"InterlockingBox$State", "enterNext", "(LInterlockingBox$Train;)V"⟩, 9), (⟨"InterlockingBox$State", "removeArrived", "()V"⟩, 9), (⟨"InterlockingBox$State", "considerQueue", "()V"⟩, 9), (⟨"InterlockingBox", "checkPoint", "(I)V"⟩, 12), (⟨"InterlockingBox", "writeRestOfRoute", "(LInterlockingBox$Train;)V"⟩, 12), (⟨"InterlockingBox$Relation", "enter", "(I)V"⟩, 7), (⟨"InterlockingBox$Relation", "closeSet", "(I)V"⟩, 7), (⟨"InterlockingBox$Relation", "isUnrelated", "(I)Z"⟩, 7)]
theorem lw_r2 : ∀ q ∈ lw_privs_2, lw_okq q := List.forall_mem_cons.mpr ⟨lw_p16, List.forall_mem_cons.mpr ⟨lw_p17, List.forall_mem_cons.mpr ⟨lw_p18, List.forall_mem_cons.mpr ⟨lw_p19, List.forall_mem_cons.mpr ⟨lw_p20, List.forall_mem_cons.mpr ⟨lw_p21, List.forall_mem_cons.mpr ⟨lw_p22, List.forall_mem_cons.mpr ⟨lw_p23, List.forall_mem_cons.mpr ⟨lw_p24, List.forall_mem_cons.mpr ⟨lw_p25, List.forall_mem_cons.mpr ⟨lw_p26, List.forall_mem_cons.mpr ⟨lw_p27, List.forall_mem_cons.mpr ⟨lw_p28, fun _ h => absurd h List.not_mem_nil⟩⟩⟩⟩⟩⟩⟩⟩⟩⟩⟩⟩⟩
def lw_privs : List (MethodName × Nat) := lw_privs_1 ++ (lw_privs_2)
def lw_tbl : List Cond := k2_sels lw_privs ++ tables_1
theorem lw_privs_ok : ∀ q ∈ lw_privs, lw_okq q := by
  show ∀ q ∈ lw_privs_1 ++ (lw_privs_2), lw_okq q
  exact List.forall_mem_append.mpr ⟨lw_r1, lw_r2⟩
/-- the streams that the claim lets the run draw from -/
abbrev lw_cs : List Choice := [Jvm.Choice.named "NaN.bits"]
theorem lw_bits : nanBits ∈ lw_cs := by first | decide | exact List.mem_cons_self | simp [lw_cs, nanBits]
/-! ===== BEGIN words of one list among another's, by their places ===== -/
theorem goodIn_r {big : List Cond} (ws : List Cond) (ps : List Nat) (hp : ws = ps.filterMap (fun i => big[i]?)) (h : ws.all goodWord = true) : GoodIn big ws := by
  intro w hw
  have h1 := List.all_eq_true.mp h w hw
  rw [hp] at hw
  obtain ⟨i, -, hi⟩ := List.mem_filterMap.mp hw
  have hm : w ∈ big := by first | exact List.mem_of_getElem? hi | exact List.getElem?_mem hi
  exact ⟨hm, good_of_word h1⟩
theorem goodIn_app {big a b : List Cond} (ha : GoodIn big a) (hb : GoodIn big b) : GoodIn big (a ++ b) := fun w h => (List.mem_append.mp h).elim (ha w) (hb w)
theorem goodIn_ca {big a b : List Cond} {c : Cond} (ha : GoodIn big (c :: a)) (hb : GoodIn big b) : GoodIn big (c :: (a ++ b)) := fun w h => (List.mem_cons.mp h).elim (fun e => ha w (List.mem_cons.mpr (Or.inl e))) (fun h => (List.mem_append.mp h).elim (fun h => ha w (List.mem_cons.mpr (Or.inr h))) (hb w))
theorem goodIn_sub {big ws : List Cond} (hm : ∀ w ∈ ws, w ∈ big) (h : ws.all goodWord = true) : GoodIn big ws := fun w hw => ⟨hm w hw, good_of_word (List.all_eq_true.mp h w hw)⟩
/-! ===== END ===== -/
/-! ===== BEGIN exceptions that leave a method, and their catching by the caller (launches without stack traces) ===== -/
section VXA
/-! The laws vx_back, vx_callV, vx_callS, vx_callSW, vx_throw0, vx_throwS follow proofs of the library, with one case more: JvmDerived/Free/Laws.lean (Back.of_free), Shelf42/LK1.lean (callV, callS), Shelf/KitTraced.lean (throwNew0V, throwNewS). -/
/-- where a method has thrown q: the class by its name, the cell, what was written, the world -/
def vx_T (XC : String → State → State → Prop) (st : State) (q : Addr) (t : State) (mc ms : Nat) (free : Addr → Prop) : Prop :=
  ∃ (E : String) (ce : Cell) (L : List Loc), XC E st t ∧ t.heap[q]? = some ce ∧ ce.vm = .none ∧ st.vm.findClass E = some ce.cls ∧ st.WarmedH t.vm ∧ st.sameButNew ({ t with vm := st.vm } : State) L mc ms ∧ ∀ z ∈ L, free z.base
def vx_Q (Qc : Array Value → State → Outcome → State → Prop) (XC : String → State → State → Prop) (mc ms : Nat) (free : Addr → Prop) : Array Value → State → Outcome → State → Prop := fun a st o t =>
  (Qc a st o t ∧ ∃ L, FrameEnd st o t L mc ms ∧ ∀ q ∈ L, free q.base) ∨ ∃ q, o = .threw q ∧ vx_T XC st q t mc ms free
/-- a callee that returns or throws -/
def vx_Met (l : Launch) (y : MethodName) (ws : List Cond) (rm : Room) (Pc : Array Value → State → Prop) (Qc : Array Value → State → Outcome → State → Prop) (XC : String → State → State → Prop) (mc ms : Nat) (free : Addr → Prop) : Prop :=
  MetFree l y (headSpec ws rm) Pc (fun _ _ _ _ _ => True) (vx_Q Qc XC mc ms free)
def vx_Post (XC : String → State → State → Prop) (mc ms : Nat) (free : Addr → Prop) : Pt → Array Value → Addr → Pt → Prop := fun A a q B =>
  ∃ (g : JFrame) (mk : MethodId) (t : State) (L : List Loc) (E : String) (ce : Cell), B.U.heap = t.heap ∧ B.U.vm = t.vm ∧ XC E (A.U.calling g mk a) t ∧ t.heap[q]? = some ce ∧ ce.vm = .none ∧ A.U.vm.findClass E = some ce.cls ∧ B.locs = A.locs ++ L ∧ (∀ z ∈ L, free z.base) ∧ B.cells = A.cells + mc ∧ B.slots = A.slots + ms
def vx_Back (l : Launch) (R : Room) (p : Program) (e : Env) (below : List Frame) (s : State) (sargs : Array Value) (y : MethodName) (len W9 : Nat)
    (Pre : Pt → Array Value → Prop) (Post : Pt → Array Value → Option Value → Pt → Prop) (PostX : Pt → Array Value → Addr → Pt → Prop) : Prop :=
  ∀ (m : MethodId) (meth : Method) (c : Code) (A : Pt) (g : JFrame) (ig : Instr) (mk : MethodId) (a : Array Value),
    Stand p l e R s m sargs below meth c A.U A.locs A.cells A.slots → g.method = m → g.locals.size = c.maxLocals → decode c.code g.pc = .ok (ig, len) →
    2 * g.monitorRoom + (g.stack.map fun v => v.category).sum ≤ W9 → A.U.methodNamed? y = some mk → Pre A a →
    (∃ (v : Option Value) (B : Pt), Stand p l e R s m sargs below meth c B.U B.locs B.cells B.slots ∧ Post A a v B ∧
      Steps p.tables e below (doInvoke e (A.U.setTop g) [] mk a).1 (B.U.setTop { g with pc := g.pc + len, stack := v.toList ++ g.stack })) ∨
    (∃ (q : Addr) (B : Pt), Stand p l e R s m sargs below meth c B.U B.locs B.cells B.slots ∧ PostX A a q B ∧
      Steps p.tables e below (doInvoke e (A.U.setTop g) [] mk a).1 ((B.U.setTop g).pushFrame (.throwing q)))
section Payer
variable {l : Launch} {R : Room} {p : Program} {e : Env} {below : List Frame} {s : State} {sargs : Array Value} {y : MethodName} {len W9 : Nat}
theorem vx_back {ws : List Cond} {rm : Room} {Pc : Array Value → State → Prop} {Qc : Array Value → State → Outcome → State → Prop} {XC : String → State → State → Prop} {mc ms : Nat} {free : Addr → Prop} {bytes : ByteArray} {maxL : Nat} {ret : Option FieldType}
    (hM : vx_Met l y ws rm Pc Qc XC mc ms free) (hblind : FrameBlind Pc) (hrc : rm.cells = mc) (hrs : rm.slots = ms)
    (hframes : rm.frames + 1 ≤ R.frames) (hlocals : W9 + (maxL + 11) + rm.locals ≤ R.locals)
    (hws : ∀ w ∈ ws, ∀ a' U, s.WarmedH U.vm → w.before a' U = true) (hcode : Cond.code y bytes maxL ret ∈ ws) (hinit : ∀ a' U, s.WarmedH U.vm → (Cond.initialized y.cls).before a' U = true) :
    vx_Back l R p e below s sargs y len W9 (PreOf R mc ms Pc) (PostOf Qc mc ms free) (vx_Post XC mc ms free) := by
  intro m meth c A g ig mk a X hg hsize hdg hW hn hp
  have h1 : (headSpec ws rm).pre.before a A.U = true := atoms_intro fun w hw => hws w hw _ _ X.warmed
  have h2 : (Cond.code y bytes maxL ret).before a A.U = true := hws _ hcode _ _ X.warmed
  have h3 : (Cond.initialized y.cls).before a A.U = true := hinit _ _ X.warmed
  have h4 : A.cells + (headSpec ws rm).room.cells ≤ R.cells := by rw [show (headSpec ws rm).room.cells = mc from hrc]; exact hp.1
  have h5 : A.slots + (headSpec ws rm).room.slots ≤ R.slots := by rw [show (headSpec ws rm).room.slots = ms from hrs]; exact hp.2.1
  have hPc : Pc a (A.U.calling g mk a) := hblind _ _ _ _ hp.2.2
  obtain ⟨U, Ls, c0, s0⟩ := A
  dsimp only [Pt.U, Pt.locs, Pt.cells, Pt.slots] at h1 h2 h3 h4 h5 X hn hPc ⊢
  obtain ⟨methY, cY, hmY, hcY, -, hlY, -, -, -, -⟩ := Cond.code_spec hn h2
  obtain ⟨kY, hkY, -⟩ := className_of_methodNamed hn
  have hinitY : kY.init = .initialized := Cond.initialized_spec (findClass_of_methodNamed hn) hkY h3
  have h : At U g.method c below := by rw [hg]; exact X.here
  have hlocals9 : W9 + (maxL + 11) + (headSpec ws rm).room.locals ≤ R.locals := hlocals
  have happ : (headSpec ws rm).appliesLoose y e.platform (U.calling g mk a) = true :=
    Spec.appliesLoose_calling (g := g) h hdg hn hkY hinitY
      (X.room_calling (g := g) (R' := (headSpec ws rm).room) hsize hmY hcY hframes (by rw [hlY]; omega) h4 h5) h1
  obtain ⟨mid, hmid⟩ := h.above
  have hfr : (U.setTop g).frames = (.java g :: mid) ++ below := by rw [State.frames_setTop' g h.top, hmid]; rfl
  obtain ⟨o, s₂, hsteps, -, hend, hq⟩ := Steps.callFree hM p X.admits X.cas X.clock (acts := []) hfr happ hPc trivial
  have hq' : vx_Q Qc XC mc ms free a (U.calling g mk a) o s₂ := hq
  rw [State.frames_setTop' g h.top] at hend
  obtain ⟨g₀, hg0⟩ := Option.isSome_iff_exists.mp h.top
  obtain ⟨r, hr⟩ := State.topJava?_eq_some.mp hg0
  have hr' : (({ U with heap := s₂.heap, slotsUsed := s₂.slotsUsed } : State).setVm s₂.vm).frames = .java g₀ :: r := hr
  rcases hq' with ⟨hqc, L, hfe, hL⟩ | ⟨q, rfl, E, ce, L, hx, hce, hcv, hcl, hW₂, hsm, hL⟩
  · obtain ⟨⟨v, rfl⟩, hW₂, e2, q2, q3, q4, q5, q6⟩ := id hfe
    have e3 : s₂ = ({ (U.calling g mk a).setFrames s₂.frames with heap := s₂.heap, slotsUsed := s₂.slotsUsed } : State).setVm s₂.vm := by
      have : s₂ = ({ s₂ with vm := (U.calling g mk a).vm } : State).setVm s₂.vm := rfl
      rw [e2] at this
      exact this
    obtain ⟨c₂, i₂, len₂, hc₂, hd₂, hf₂⟩ := hend
    have hW' : U.WarmedH s₂.vm := hW₂
    have hcc : c₂ = c := by
      have h1 : s₂.code? g.method = U.code? g.method := by
        rw [State.code?_eq, State.code?_eq, hW'.alike.method?]
      exact Option.some.inj (hc₂.symm.trans (h1.trans h.code))
    subst hcc
    have hlen : len₂ = len := by rw [hdg] at hd₂; cases hd₂; rfl
    subst hlen
    have hs₂ : s₂ = (({ U with heap := s₂.heap, slotsUsed := s₂.slotsUsed } : State).setVm s₂.vm).setTop { g with pc := g.pc + len₂, stack := v.toList ++ g.stack } := by
      refine e3.trans ?_
      rw [hf₂, State.calling_eq h.top, State.setFrames_setFrames, State.setTop_of_frames _ hr', hr]
      rfl
    have hsame : U.sameButNew ({ U with heap := s₂.heap, slotsUsed := s₂.slotsUsed } : State) L mc ms := by
      refine ⟨?_, q2, q3, q4, q5, q6⟩
      obtain ⟨t, ht, -⟩ := State.frames_cons hr
      show ({ U with heap := s₂.heap, slotsUsed := s₂.slotsUsed } : State) = { U.setFrames U.frames with heap := s₂.heap, slotsUsed := s₂.slotsUsed }
      rw [State.setFrames_self ht]
    subst hg
    refine Or.inl ⟨v, ⟨(({ U with heap := s₂.heap, slotsUsed := s₂.slotsUsed } : State).setVm s₂.vm), Ls ++ L, c0 + mc, s0 + ms⟩,
      ⟨X.admits, X.cas, X.clock, X.frames, X.room, X.hears, X.method, X.code, (X.here.setHeapUsed s₂.heap s₂.slotsUsed).setVm hW'.alike, X.tail, State.WarmedH.trans X.warmed hW', X.limits, X.bytes, X.same.trans (hsame.setVm s.vm)⟩,
      ⟨g, mk, s₂, L, rfl, rfl, hqc, rfl, hL, rfl, rfl⟩, ?_⟩
    show Steps p.tables e below _ ((({ U with heap := s₂.heap, slotsUsed := s₂.slotsUsed } : State).setVm s₂.vm).setTop { g with pc := g.pc + len₂, stack := v.toList ++ g.stack })
    rw [← hs₂]
    exact hsteps
  · obtain ⟨e2, q2, q3, q4, q5, q6⟩ := id hsm
    have e3 : s₂ = ({ (U.calling g mk a).setFrames s₂.frames with heap := s₂.heap, slotsUsed := s₂.slotsUsed } : State).setVm s₂.vm := by
      have : s₂ = ({ s₂ with vm := (U.calling g mk a).vm } : State).setVm s₂.vm := rfl
      rw [e2] at this
      exact this
    have hf₂ : s₂.frames = .throwing q :: .java g :: U.frames.tail := hend
    have hW' : U.WarmedH s₂.vm := hW₂
    have hs₂ : s₂ = ((({ U with heap := s₂.heap, slotsUsed := s₂.slotsUsed } : State).setVm s₂.vm).setTop g).pushFrame (.throwing q) := by
      refine e3.trans ?_
      rw [hf₂, State.calling_eq h.top, State.setFrames_setFrames, State.pushFrame, State.frames_setTop _ hr', State.setTop_of_frames _ hr', State.setFrames_setFrames, hr]
      rfl
    have hsame : U.sameButNew ({ U with heap := s₂.heap, slotsUsed := s₂.slotsUsed } : State) L mc ms := by
      refine ⟨?_, q2, q3, q4, q5, q6⟩
      obtain ⟨t, ht, -⟩ := State.frames_cons hr
      show ({ U with heap := s₂.heap, slotsUsed := s₂.slotsUsed } : State) = { U.setFrames U.frames with heap := s₂.heap, slotsUsed := s₂.slotsUsed }
      rw [State.setFrames_self ht]
    subst hg
    refine Or.inr ⟨q, ⟨(({ U with heap := s₂.heap, slotsUsed := s₂.slotsUsed } : State).setVm s₂.vm), Ls ++ L, c0 + mc, s0 + ms⟩,
      ⟨X.admits, X.cas, X.clock, X.frames, X.room, X.hears, X.method, X.code, (X.here.setHeapUsed s₂.heap s₂.slotsUsed).setVm hW'.alike, X.tail, State.WarmedH.trans X.warmed hW', X.limits, X.bytes, X.same.trans (hsame.setVm s.vm)⟩,
      ⟨g, mk, s₂, L, E, ce, rfl, rfl, hx, hce, hcv, hcl, rfl, hL, rfl, rfl⟩, ?_⟩
    show Steps p.tables e below _ (((({ U with heap := s₂.heap, slotsUsed := s₂.slotsUsed } : State).setVm s₂.vm).setTop g).pushFrame (.throwing q))
    rw [← hs₂]
    exact hsteps
end Payer
section Calls
variable {p : Program} {l : Launch} {e : Env} {R : Room} {s : State} {m : MethodId} {args : Array Value} {below : List Frame} {meth : Method} {c : Code} {T : State} {locs : List Loc} {cells slots : Nat}
theorem vx_callV (X : Stand p l e R s m args below meth c T locs cells slots) (hexec : p.tables.exec = Jvm.exec) {own C : String} {index : Nat} {y : MethodName} {bytes : ByteArray} {maxL : Nat} {ret : Option FieldType}
    (hown : s.vm.findClass own = some m.cls) (hlink : (Cond.methodLink own index y).before args s = true) (hinst : (Cond.instanceMethod y).before args s = true) (hsel : (Cond.selects C y y).before args s = true)
    (hcode : (Cond.code y bytes maxL ret).before args s = true) (hy : y.cls ≠ "java/lang/invoke/MethodHandle" ∧ y.cls ≠ "java/lang/invoke/VarHandle")
    {W9 : Nat} {Pre : Pt → Array Value → Prop} {Post : Pt → Array Value → Option Value → Pt → Prop} {PostX : Pt → Array Value → Addr → Pt → Prop} (hK : vx_Back l R p e below s args y 3 W9 Pre Post PostX)
    {b : Addr} {cellB : Cell} (hcell : T.heap[b]? = some cellB) (hobj : cellB.vm.isStatics = false) (hcls : s.vm.findClass C = some cellB.cls)
    {g : JFrame} (hg : g.method = m) (hsize : g.locals.size = c.maxLocals) {argsL rest : List Value} (hlen : ∀ sig, parseMethodDescriptor y.desc = some sig → argsL.length = sig.parameters.length)
    (hstack : g.stack = argsL.reverse ++ .ref b :: rest) (hW : 2 * g.monitorRoom + (rest.map fun v => v.category).sum ≤ W9) (hdg : decode c.code g.pc = .ok (.invokevirtual index, 3))
    (hpre : ∀ vm₁, s.WarmedH vm₁ → Pre ⟨T.setVm vm₁, locs, cells, slots⟩ (Value.ref b :: argsL).toArray) :
    (∃ (v : Option Value) (vm₁ : Vm) (B : Pt), s.WarmedH vm₁ ∧ Stand p l e R s m args below meth c B.U B.locs B.cells B.slots ∧ Post ⟨T.setVm vm₁, locs, cells, slots⟩ (Value.ref b :: argsL).toArray v B ∧
      ∀ target, Steps p.tables e below (B.U.setTop { g with pc := g.pc + 3, stack := v.toList ++ rest }) target → Steps p.tables e below (T.setTop g) target) ∨
    (∃ (q : Addr) (vm₁ : Vm) (B : Pt), s.WarmedH vm₁ ∧ Stand p l e R s m args below meth c B.U B.locs B.cells B.slots ∧ PostX ⟨T.setVm vm₁, locs, cells, slots⟩ (Value.ref b :: argsL).toArray q B ∧
      Steps p.tables e below (T.setTop g) ((B.U.setTop { g with stack := rest }).pushFrame (.throwing q))) := by
  obtain ⟨mk, methM, hnamed, hmethM, hstM, habM⟩ := Cond.instanceMethod_spec hinst
  obtain ⟨methM', cM, hmethM', -, -, -, -, -, -, hsigM⟩ := Cond.code_spec hnamed hcode
  cases hmethM.symm.trans hmethM'
  obtain ⟨c2, r2, m2, q1, q2, q3, q4, kP, hkP, hkPi⟩ := Cond.selects_spec hsel
  cases hcls.symm.trans q1
  cases (State.methodFound?_of_named hnamed hy).symm.trans q2
  cases hnamed.symm.trans q3
  have hselP : selectMethod e.platform s.vm cellB.cls mk = .method mk := by rw [Launch.admits_selectMethod X.admits]; exact q4
  obtain ⟨vm₁, X₁, hstep₁⟩ := X.invokevirtual hexec hown hlink hnamed hmethM hstM hkP hkPi hy (a := b) (cell := cellB) hcell
    (fun z h => by rw [h] at hobj; cases hobj) hselP hmethM habM hkP hkPi (g := g) hg (argsL := argsL) (rest := rest) (hlen _ hsigM) hstack hdg
  rcases hK m meth c ⟨T.setVm vm₁, locs, cells, slots⟩ { g with stack := rest } (.invokevirtual index) mk (Value.ref b :: argsL).toArray X₁ hg hsize hdg hW (X₁.named hnamed) (hpre vm₁ X₁.warmed) with ⟨v, B, X', hpost, hsteps⟩ | ⟨q, B, X', hpost, hsteps⟩
  · exact Or.inl ⟨v, vm₁, B, X₁.warmed, X', hpost, fun target h => hstep₁ _ fun acts => by rw [doInvoke_state]; exact hsteps.trans h⟩
  · exact Or.inr ⟨q, vm₁, B, X₁.warmed, X', hpost, hstep₁ _ fun acts => by rw [doInvoke_state]; exact hsteps⟩
theorem vx_callS (X : Stand p l e R s m args below meth c T locs cells slots) (hexec : p.tables.exec = Jvm.exec) {own : String} {index : Nat} {y : MethodName} {bytes : ByteArray} {maxL : Nat} {ret : Option FieldType}
    (hown : s.vm.findClass own = some m.cls) (hlink : (Cond.methodLink own index y).before args s = true) (hstat : (Cond.static y).before args s = true) (hinit : (Cond.initialized y.cls).before args s = true)
    (hcode : (Cond.code y bytes maxL ret).before args s = true) (hy : y.cls ≠ "java/lang/invoke/MethodHandle" ∧ y.cls ≠ "java/lang/invoke/VarHandle")
    {W9 : Nat} {Pre : Pt → Array Value → Prop} {Post : Pt → Array Value → Option Value → Pt → Prop} {PostX : Pt → Array Value → Addr → Pt → Prop} (hK : vx_Back l R p e below s args y 3 W9 Pre Post PostX)
    {g : JFrame} (hg : g.method = m) (hsize : g.locals.size = c.maxLocals) {argsL rest : List Value} (hlen : ∀ sig, parseMethodDescriptor y.desc = some sig → argsL.length = sig.parameters.length)
    (hstack : g.stack = argsL.reverse ++ rest) (hW : 2 * g.monitorRoom + (rest.map fun v => v.category).sum ≤ W9) (hdg : decode c.code g.pc = .ok (.invokestatic index, 3))
    (hpre : ∀ vm₁, s.WarmedH vm₁ → Pre ⟨T.setVm vm₁, locs, cells, slots⟩ argsL.toArray) :
    (∃ (v : Option Value) (vm₁ : Vm) (B : Pt), s.WarmedH vm₁ ∧ Stand p l e R s m args below meth c B.U B.locs B.cells B.slots ∧ Post ⟨T.setVm vm₁, locs, cells, slots⟩ argsL.toArray v B ∧
      ∀ target, Steps p.tables e below (B.U.setTop { g with pc := g.pc + 3, stack := v.toList ++ rest }) target → Steps p.tables e below (T.setTop g) target) ∨
    (∃ (q : Addr) (vm₁ : Vm) (B : Pt), s.WarmedH vm₁ ∧ Stand p l e R s m args below meth c B.U B.locs B.cells B.slots ∧ PostX ⟨T.setVm vm₁, locs, cells, slots⟩ argsL.toArray q B ∧
      Steps p.tables e below (T.setTop g) ((B.U.setTop { g with stack := rest }).pushFrame (.throwing q))) := by
  obtain ⟨mk, hnamed⟩ := Cond.code_named hcode
  obtain ⟨methM, cM, hmethM, -, -, -, -, -, -, hsigM⟩ := Cond.code_spec hnamed hcode
  have hstatic : methM.isStatic = true := Cond.static_spec hnamed hmethM hstat
  obtain ⟨kP, hkP, -⟩ := className_of_methodNamed hnamed
  have hinitP : kP.init = .initialized := Cond.initialized_spec (findClass_of_methodNamed hnamed) hkP hinit
  obtain ⟨vm₁, X₁, hstep₁⟩ := X.invokestatic hexec hown hlink hnamed hmethM hstatic hkP hinitP hy (g := g) hg (argsL := argsL) (rest := rest) (hlen _ hsigM) hstack hdg
  rcases hK m meth c ⟨T.setVm vm₁, locs, cells, slots⟩ { g with stack := rest } (.invokestatic index) mk argsL.toArray X₁ hg hsize hdg hW (X₁.named hnamed) (hpre vm₁ X₁.warmed) with ⟨v, B, X', hpost, hsteps⟩ | ⟨q, B, X', hpost, hsteps⟩
  · exact Or.inl ⟨v, vm₁, B, X₁.warmed, X', hpost, fun target h => hstep₁ _ fun acts => by rw [doInvoke_state]; exact hsteps.trans h⟩
  · exact Or.inr ⟨q, vm₁, B, X₁.warmed, X', hpost, hstep₁ _ fun acts => by rw [doInvoke_state]; exact hsteps⟩
end Calls
theorem vx_cls {s : State} {T : State} {vm₁ : Vm} {E : String} {k : ClassId} (hW : s.WarmedH vm₁) (h : (T.setVm vm₁).vm.findClass E = some k) : s.vm.findClass E = some k := by
  have h1 : vm₁.findClass E = some k := h
  rw [hW.alike.findClass] at h1
  exact h1
/-- the method's frame g, with q thrown over it -/
def vx_W (p : Program) (l : Launch) (e : Env) (R : Room) (s : State) (m : MethodId) (args : Array Value) (below : List Frame) (meth : Method) (c : Code) (H : Heap) (locs : List Loc) (cells slots : Nat) (Q : State → Prop) (g : JFrame) (q : Addr) : Prop :=
  ∀ T : State, T.heap = H → Stand p l e R s m args below meth c T locs cells slots → ∃ t, Steps p.tables e below ((T.setTop g).pushFrame (.throwing q)) t ∧ Q t
def vx_Run (p : Program) (l : Launch) (e : Env) (R : Room) (s : State) (m : MethodId) (args : Array Value) (below : List Frame) (meth : Method) (c : Code) (H : Heap) (locs : List Loc) (cells slots mc ms : Nat) (g : JFrame) (rest : List Value) (Qa : State → Outcome → State → Prop) (XC : String → State → State → Prop) (free : Addr → Prop) : Prop :=
  ∀ T : State, T.heap = H → Stand p l e R s m args below meth c T locs cells slots →
    (∃ (v : Option Value) (st₀ t T' : State) (L : List Loc), st₀.heap = H ∧ Stand p l e R s m args below meth c T' (locs ++ L) (cells + mc) (slots + ms) ∧ (∀ q ∈ L, free q.base) ∧ T'.heap = t.heap ∧ T'.vm = t.vm ∧ Qa st₀ (.returned v) t ∧
      Goes p e below T g T' { g with pc := g.pc + 3, stack := v.toList ++ rest }) ∨
    (∃ (q : Addr) (st₀ t T' : State) (L : List Loc) (E : String) (ce : Cell), st₀.heap = H ∧ Stand p l e R s m args below meth c T' (locs ++ L) (cells + mc) (slots + ms) ∧ (∀ z ∈ L, free z.base) ∧ T'.heap = t.heap ∧ T'.vm = t.vm ∧ XC E st₀ t ∧ t.heap[q]? = some ce ∧ ce.vm = .none ∧ s.vm.findClass E = some ce.cls ∧
      Steps p.tables e below (T.setTop g) ((T'.setTop { g with stack := rest }).pushFrame (.throwing q)))
def vx_X {S : Type} (px : S → Prop) (B : String → S → State → Prop) (A : Nat → Prop) : String → State → State → Prop := fun E st t => ∃ u : S, px u ∧ B E u t ∧ va_F A st t
section Runs
variable {p : Program} {l : Launch} {e : Env} {R : Room} {s : State} {m : MethodId} {args : Array Value} {below : List Frame} {meth : Method} {c : Code} {H : Heap} {locs : List Loc} {cells slots : Nat}
variable {y : MethodName} {bytes cc : ByteArray} {maxL nL mc ms n index : Nat} {ret : Option FieldType} {ws : List Cond} {rm : Room} {Pc : Array Value → State → Prop} {Qc : Array Value → State → Outcome → State → Prop} {XC : String → State → State → Prop} {free : Addr → Prop} {Ts : List Cond} {own C : String} {b : Addr} {As rest : List Value} {g : JFrame}
theorem vx_callBack (cb : CallB R s args own index y bytes maxL ret ws rm mc ms n) (hM : vx_Met l y ws rm Pc Qc XC mc ms free) (hbl : FrameBlind Pc) : vx_Back l R p e below s args y 3 8 (PreOf R mc ms Pc) (PostOf Qc mc ms free) (vx_Post XC mc ms free) := by
  obtain ⟨hrc, hrs, hfr, hlo, hws, hcw, -, hini, -⟩ := cb
  exact vx_back (bytes := bytes) (maxL := maxL) (ret := ret) hM hbl hrc hrs hfr hlo hws hcw (fun a' U hW => word_at hW (Or.inl (by first | rfl | simp [Cond.onTables, Cond.keeps, Cond.steady])) hini)
theorem vx_runV (S : CallFix p m c cc nL s args Ts own) (hM : vx_Met l y ws rm Pc Qc XC mc ms free) (cw : CallW R s args own C index y bytes maxL ret ws rm mc ms n) (hp : PreV s H C b Pc As)
    (hg : g.method = m) (hn : As.length = n) (hsize : g.locals.size = nL) (hstack : g.stack = As.reverse ++ .ref b :: rest) (hW : 2 * g.monitorRoom + (rest.map fun v => v.category).sum ≤ 8) (hdg : decode cc g.pc = .ok (.invokevirtual index, 3)) (hf : cells + mc ≤ R.cells ∧ slots + ms ≤ R.slots) :
    vx_Run p l e R s m args below meth c H locs cells slots mc ms g rest (Qc (Value.ref b :: As).toArray) XC free := by
  have hK : vx_Back l R p e below s args y 3 8 (PreOf R mc ms Pc) (PostOf Qc mc ms free) (vx_Post XC mc ms free) := vx_callBack cw.1 hM hp.1
  obtain ⟨⟨-, -, -, -, -, -, hcode, -, hy, hlen, hl⟩, hin, hse⟩ := cw
  obtain ⟨hx, hb, hml, ho, -⟩ := S
  obtain ⟨-, ⟨cellB, hcB, hoB, hclB⟩, hPc⟩ := hp
  intro T hT X
  rcases vx_callV X hx (C := C) (bytes := bytes) (maxL := maxL) (ret := ret) ho hl hin hse hcode hy hK (by rw [hT]; exact hcB) hoB hclB hg (hsize.trans hml.symm) (argsL := As) (rest := rest) (fun sig h => hn.trans (hlen sig h)) hstack hW (by rw [hb]; exact hdg)
    (fun vm₁ hW₁ => ⟨hf.1, hf.2, hPc (T.setVm vm₁) hT hW₁⟩) with ⟨v, vm₁, ⟨U', l2, c2, s2⟩, hW₁, X', ⟨g', mk, t, L, e1, e2, hq, h1, hL, h2, h3⟩, st⟩ | ⟨q, vm₁, ⟨U', l2, c2, s2⟩, hW₁, X', ⟨g', mk, t, L, E, ce, e1, e2, hq, hce, hcv, hcl, h1, hL, h2, h3⟩, st⟩
  · dsimp only [Pt.U, Pt.locs, Pt.cells, Pt.slots] at X' e1 e2 h1 h2 h3 st
    subst h1; subst h2; subst h3
    exact Or.inl ⟨v, (T.setVm vm₁).calling g' mk (Value.ref b :: As).toArray, t, U', L, hT, X', hL, e1, e2, hq, st⟩
  · dsimp only [Pt.U, Pt.locs, Pt.cells, Pt.slots] at X' e1 e2 h1 h2 h3 st hcl
    subst h1; subst h2; subst h3
    exact Or.inr ⟨q, (T.setVm vm₁).calling g' mk (Value.ref b :: As).toArray, t, U', L, E, ce, hT, X', hL, e1, e2, hq, hce, hcv, vx_cls hW₁ hcl, st⟩
theorem vx_runS (S : CallFix p m c cc nL s args Ts own) (hM : vx_Met l y ws rm Pc Qc XC mc ms free) (cw : CallB R s args own index y bytes maxL ret ws rm mc ms n ∧ (Cond.static y).before args s = true) (hp : PreS s H Pc As)
    (hg : g.method = m) (hn : As.length = n) (hsize : g.locals.size = nL) (hstack : g.stack = As.reverse ++ rest) (hW : 2 * g.monitorRoom + (rest.map fun v => v.category).sum ≤ 8) (hdg : decode cc g.pc = .ok (.invokestatic index, 3)) (hf : cells + mc ≤ R.cells ∧ slots + ms ≤ R.slots) :
    vx_Run p l e R s m args below meth c H locs cells slots mc ms g rest (Qc As.toArray) XC free := by
  have hK : vx_Back l R p e below s args y 3 8 (PreOf R mc ms Pc) (PostOf Qc mc ms free) (vx_Post XC mc ms free) := vx_callBack cw.1 hM hp.1
  obtain ⟨⟨-, -, -, -, -, -, hcode, hini, hy, hlen, hl⟩, hstt⟩ := cw
  obtain ⟨hx, hb, hml, ho, -⟩ := S
  intro T hT X
  rcases vx_callS X hx (bytes := bytes) (maxL := maxL) (ret := ret) ho hl hstt hini hcode hy hK hg (hsize.trans hml.symm) (argsL := As) (rest := rest) (fun sig h => hn.trans (hlen sig h)) hstack hW (by rw [hb]; exact hdg)
    (fun vm₁ hW₁ => ⟨hf.1, hf.2, hp.2 (T.setVm vm₁) hT hW₁⟩) with ⟨v, vm₁, ⟨U', l2, c2, s2⟩, hW₁, X', ⟨g', mk, t, L, e1, e2, hq, h1, hL, h2, h3⟩, st⟩ | ⟨q, vm₁, ⟨U', l2, c2, s2⟩, hW₁, X', ⟨g', mk, t, L, E, ce, e1, e2, hq, hce, hcv, hcl, h1, hL, h2, h3⟩, st⟩
  · dsimp only [Pt.U, Pt.locs, Pt.cells, Pt.slots] at X' e1 e2 h1 h2 h3 st
    subst h1; subst h2; subst h3
    exact Or.inl ⟨v, (T.setVm vm₁).calling g' mk As.toArray, t, U', L, hT, X', hL, e1, e2, hq, st⟩
  · dsimp only [Pt.U, Pt.locs, Pt.cells, Pt.slots] at X' e1 e2 h1 h2 h3 st hcl
    subst h1; subst h2; subst h3
    exact Or.inr ⟨q, (T.setVm vm₁).calling g' mk As.toArray, t, U', L, E, ce, hT, X', hL, e1, e2, hq, hce, hcv, vx_cls hW₁ hcl, st⟩
end Runs
section Rows
variable {p : Program} {l : Launch} {e : Env} {R : Room} {s : State} {m : MethodId} {args : Array Value} {below : List Frame} {meth : Method} {c : Code} {H : Heap} {locs : List Loc} {cells slots : Nat} {Q : State → Prop}
variable {mc ms : Nat} {free : Addr → Prop} {A0 A1 : Nat → Prop} {H0 : Heap} {a : Array Value} {pc : Nat} {ls : Array Slot} {st0 rest : List Value}
theorem vx_keep {st₀ t T' : State} {L : List Loc} (h0 : st₀.heap = H) (e1 : T'.heap = t.heap) (hS : va_S A0 H0 H locs) (hA : ∀ q, q < H.size → A1 q → A0 q) (hf : ∀ q, free q → A0 q) (hL : ∀ q ∈ L, free q.base) (hF : va_F A1 st₀ t) :
    H.size ≤ T'.heap.size ∧ (∀ q : Nat, q < H.size → ¬ A1 q → T'.heap[q]? = H[q]?) ∧ va_S A0 H0 T'.heap (locs ++ L) := by
  obtain ⟨hz, hk⟩ := hF
  rw [h0] at hz hk
  exact ⟨by rw [e1]; exact hz, fun q h1 h2 => by rw [e1]; exact hk q h1 h2,
    ⟨Nat.le_trans hS.1 (by rw [e1]; exact hz), fun q h1 h2 => by rw [e1, hk q (Nat.lt_of_lt_of_le h1 hS.1) (fun z => h2 (hA q (Nat.lt_of_lt_of_le h1 hS.1) z))]; exact hS.2.1 q h1 h2, fun q hq => by
      rcases List.mem_append.mp hq with h | h
      · exact hS.2.2 q h
      · exact hf _ (hL q h)⟩⟩
theorem vx_calli {S SX : Type} {post : Int32 → S → Prop} {px : SX → Prop} {B : S → State → Prop} {BX : String → SX → State → Prop} {AX : Nat → Prop} (hr : vx_Run p l e R s m args below meth c H locs cells slots mc ms (F0 m pc ls st0) rest (va_Qi post B A1 a) (vx_X px BX AX) free) (hS : va_S A0 H0 H locs) (hA : ∀ q, q < H.size → A1 q → A0 q) (hf : ∀ q, free q → A0 q) (hAX : ∀ q, q < H.size → AX q → A0 q)
    (kx : ∀ (E : String) (ce : Cell) (q9 : Addr) (u : SX) (t : State) (H1 : Heap) (locs1 : List Loc), t.heap = H1 → s.vm.Alike t.vm → px u → BX E u t → H.size ≤ H1.size → (∀ q : Nat, q < H.size → ¬ AX q → H1[q]? = H[q]?) → va_S A0 H0 H1 locs1 → H1[q9]? = some ce → ce.vm = .none → s.vm.findClass E = some ce.cls → vx_W p l e R s m args below meth c H1 locs1 (cells + mc) (slots + ms) Q (F0 m pc ls rest) q9)
    (kk : ∀ (r : Int32) (u : S) (t : State) (H1 : Heap) (locs1 : List Loc), t.heap = H1 → s.vm.Alike t.vm → post r u → B u t → H.size ≤ H1.size → (∀ q : Nat, q < H.size → ¬ A1 q → H1[q]? = H[q]?) → va_S A0 H0 H1 locs1 → W p l e R s m args below meth c H1 locs1 (cells + mc) (slots + ms) Q (F0 m (pc + 3) ls (.int r :: rest))) : W p l e R s m args below meth c H locs cells slots Q (F0 m pc ls st0) := by
  intro T hT X
  rcases hr T hT X with ⟨v, st₀, t, T', L, h0, X', hL, e1, e2, ⟨⟨r, u, hv, hp, hb⟩, hF⟩, st⟩ | ⟨q, st₀, t, T', L, E, ce, h0, X', hL, e1, e2, ⟨u, hp, hb, hF⟩, hce, hcv, hcl, st⟩
  · cases hv
    obtain ⟨k1, k2, k3⟩ := vx_keep h0 e1 hS hA hf hL hF
    obtain ⟨t2, a1, b1⟩ := kk r u t T'.heap (locs ++ L) e1.symm (by rw [← e2]; exact X'.warmed.alike) hp hb k1 k2 k3 T' rfl X'
    exact ⟨t2, st t2 a1, b1⟩
  · obtain ⟨k1, k2, k3⟩ := vx_keep h0 e1 hS hAX hf hL hF
    obtain ⟨t2, a1, b1⟩ := kx E ce q u t T'.heap (locs ++ L) e1.symm (by rw [← e2]; exact X'.warmed.alike) hp hb k1 k2 k3 (by rw [e1]; exact hce) hcv hcl T' rfl X'
    exact ⟨t2, st.trans a1, b1⟩
theorem vx_calll {S SX : Type} {post : Int64 → S → Prop} {px : SX → Prop} {B : S → State → Prop} {BX : String → SX → State → Prop} {AX : Nat → Prop} (hr : vx_Run p l e R s m args below meth c H locs cells slots mc ms (F0 m pc ls st0) rest (va_Ql post B A1 a) (vx_X px BX AX) free) (hS : va_S A0 H0 H locs) (hA : ∀ q, q < H.size → A1 q → A0 q) (hf : ∀ q, free q → A0 q) (hAX : ∀ q, q < H.size → AX q → A0 q)
    (kx : ∀ (E : String) (ce : Cell) (q9 : Addr) (u : SX) (t : State) (H1 : Heap) (locs1 : List Loc), t.heap = H1 → s.vm.Alike t.vm → px u → BX E u t → H.size ≤ H1.size → (∀ q : Nat, q < H.size → ¬ AX q → H1[q]? = H[q]?) → va_S A0 H0 H1 locs1 → H1[q9]? = some ce → ce.vm = .none → s.vm.findClass E = some ce.cls → vx_W p l e R s m args below meth c H1 locs1 (cells + mc) (slots + ms) Q (F0 m pc ls rest) q9)
    (kk : ∀ (r : Int64) (u : S) (t : State) (H1 : Heap) (locs1 : List Loc), t.heap = H1 → s.vm.Alike t.vm → post r u → B u t → H.size ≤ H1.size → (∀ q : Nat, q < H.size → ¬ A1 q → H1[q]? = H[q]?) → va_S A0 H0 H1 locs1 → W p l e R s m args below meth c H1 locs1 (cells + mc) (slots + ms) Q (F0 m (pc + 3) ls (.long r :: rest))) : W p l e R s m args below meth c H locs cells slots Q (F0 m pc ls st0) := by
  intro T hT X
  rcases hr T hT X with ⟨v, st₀, t, T', L, h0, X', hL, e1, e2, ⟨⟨r, u, hv, hp, hb⟩, hF⟩, st⟩ | ⟨q, st₀, t, T', L, E, ce, h0, X', hL, e1, e2, ⟨u, hp, hb, hF⟩, hce, hcv, hcl, st⟩
  · cases hv
    obtain ⟨k1, k2, k3⟩ := vx_keep h0 e1 hS hA hf hL hF
    obtain ⟨t2, a1, b1⟩ := kk r u t T'.heap (locs ++ L) e1.symm (by rw [← e2]; exact X'.warmed.alike) hp hb k1 k2 k3 T' rfl X'
    exact ⟨t2, st t2 a1, b1⟩
  · obtain ⟨k1, k2, k3⟩ := vx_keep h0 e1 hS hAX hf hL hF
    obtain ⟨t2, a1, b1⟩ := kx E ce q u t T'.heap (locs ++ L) e1.symm (by rw [← e2]; exact X'.warmed.alike) hp hb k1 k2 k3 (by rw [e1]; exact hce) hcv hcl T' rfl X'
    exact ⟨t2, st.trans a1, b1⟩
theorem vx_callf {S SX : Type} {post : UInt32 → S → Prop} {px : SX → Prop} {B : S → State → Prop} {BX : String → SX → State → Prop} {AX : Nat → Prop} (hr : vx_Run p l e R s m args below meth c H locs cells slots mc ms (F0 m pc ls st0) rest (va_Qf post B A1 a) (vx_X px BX AX) free) (hS : va_S A0 H0 H locs) (hA : ∀ q, q < H.size → A1 q → A0 q) (hf : ∀ q, free q → A0 q) (hAX : ∀ q, q < H.size → AX q → A0 q)
    (kx : ∀ (E : String) (ce : Cell) (q9 : Addr) (u : SX) (t : State) (H1 : Heap) (locs1 : List Loc), t.heap = H1 → s.vm.Alike t.vm → px u → BX E u t → H.size ≤ H1.size → (∀ q : Nat, q < H.size → ¬ AX q → H1[q]? = H[q]?) → va_S A0 H0 H1 locs1 → H1[q9]? = some ce → ce.vm = .none → s.vm.findClass E = some ce.cls → vx_W p l e R s m args below meth c H1 locs1 (cells + mc) (slots + ms) Q (F0 m pc ls rest) q9)
    (kk : ∀ (r : UInt32) (u : S) (t : State) (H1 : Heap) (locs1 : List Loc), t.heap = H1 → s.vm.Alike t.vm → post r u → B u t → H.size ≤ H1.size → (∀ q : Nat, q < H.size → ¬ A1 q → H1[q]? = H[q]?) → va_S A0 H0 H1 locs1 → W p l e R s m args below meth c H1 locs1 (cells + mc) (slots + ms) Q (F0 m (pc + 3) ls (.float r :: rest))) : W p l e R s m args below meth c H locs cells slots Q (F0 m pc ls st0) := by
  intro T hT X
  rcases hr T hT X with ⟨v, st₀, t, T', L, h0, X', hL, e1, e2, ⟨⟨r, u, hv, hp, hb⟩, hF⟩, st⟩ | ⟨q, st₀, t, T', L, E, ce, h0, X', hL, e1, e2, ⟨u, hp, hb, hF⟩, hce, hcv, hcl, st⟩
  · cases hv
    obtain ⟨k1, k2, k3⟩ := vx_keep h0 e1 hS hA hf hL hF
    obtain ⟨t2, a1, b1⟩ := kk r u t T'.heap (locs ++ L) e1.symm (by rw [← e2]; exact X'.warmed.alike) hp hb k1 k2 k3 T' rfl X'
    exact ⟨t2, st t2 a1, b1⟩
  · obtain ⟨k1, k2, k3⟩ := vx_keep h0 e1 hS hAX hf hL hF
    obtain ⟨t2, a1, b1⟩ := kx E ce q u t T'.heap (locs ++ L) e1.symm (by rw [← e2]; exact X'.warmed.alike) hp hb k1 k2 k3 (by rw [e1]; exact hce) hcv hcl T' rfl X'
    exact ⟨t2, st.trans a1, b1⟩
theorem vx_calld {S SX : Type} {post : UInt64 → S → Prop} {px : SX → Prop} {B : S → State → Prop} {BX : String → SX → State → Prop} {AX : Nat → Prop} (hr : vx_Run p l e R s m args below meth c H locs cells slots mc ms (F0 m pc ls st0) rest (va_Qd post B A1 a) (vx_X px BX AX) free) (hS : va_S A0 H0 H locs) (hA : ∀ q, q < H.size → A1 q → A0 q) (hf : ∀ q, free q → A0 q) (hAX : ∀ q, q < H.size → AX q → A0 q)
    (kx : ∀ (E : String) (ce : Cell) (q9 : Addr) (u : SX) (t : State) (H1 : Heap) (locs1 : List Loc), t.heap = H1 → s.vm.Alike t.vm → px u → BX E u t → H.size ≤ H1.size → (∀ q : Nat, q < H.size → ¬ AX q → H1[q]? = H[q]?) → va_S A0 H0 H1 locs1 → H1[q9]? = some ce → ce.vm = .none → s.vm.findClass E = some ce.cls → vx_W p l e R s m args below meth c H1 locs1 (cells + mc) (slots + ms) Q (F0 m pc ls rest) q9)
    (kk : ∀ (r : UInt64) (u : S) (t : State) (H1 : Heap) (locs1 : List Loc), t.heap = H1 → s.vm.Alike t.vm → post r u → B u t → H.size ≤ H1.size → (∀ q : Nat, q < H.size → ¬ A1 q → H1[q]? = H[q]?) → va_S A0 H0 H1 locs1 → W p l e R s m args below meth c H1 locs1 (cells + mc) (slots + ms) Q (F0 m (pc + 3) ls (.double r :: rest))) : W p l e R s m args below meth c H locs cells slots Q (F0 m pc ls st0) := by
  intro T hT X
  rcases hr T hT X with ⟨v, st₀, t, T', L, h0, X', hL, e1, e2, ⟨⟨r, u, hv, hp, hb⟩, hF⟩, st⟩ | ⟨q, st₀, t, T', L, E, ce, h0, X', hL, e1, e2, ⟨u, hp, hb, hF⟩, hce, hcv, hcl, st⟩
  · cases hv
    obtain ⟨k1, k2, k3⟩ := vx_keep h0 e1 hS hA hf hL hF
    obtain ⟨t2, a1, b1⟩ := kk r u t T'.heap (locs ++ L) e1.symm (by rw [← e2]; exact X'.warmed.alike) hp hb k1 k2 k3 T' rfl X'
    exact ⟨t2, st t2 a1, b1⟩
  · obtain ⟨k1, k2, k3⟩ := vx_keep h0 e1 hS hAX hf hL hF
    obtain ⟨t2, a1, b1⟩ := kx E ce q u t T'.heap (locs ++ L) e1.symm (by rw [← e2]; exact X'.warmed.alike) hp hb k1 k2 k3 (by rw [e1]; exact hce) hcv hcl T' rfl X'
    exact ⟨t2, st.trans a1, b1⟩
theorem vx_callv {S SX : Type} {post : S → Prop} {px : SX → Prop} {B : S → State → Prop} {BX : String → SX → State → Prop} {AX : Nat → Prop} (hr : vx_Run p l e R s m args below meth c H locs cells slots mc ms (F0 m pc ls st0) rest (va_Qv post B A1 a) (vx_X px BX AX) free) (hS : va_S A0 H0 H locs) (hA : ∀ q, q < H.size → A1 q → A0 q) (hf : ∀ q, free q → A0 q) (hAX : ∀ q, q < H.size → AX q → A0 q)
    (kx : ∀ (E : String) (ce : Cell) (q9 : Addr) (u : SX) (t : State) (H1 : Heap) (locs1 : List Loc), t.heap = H1 → s.vm.Alike t.vm → px u → BX E u t → H.size ≤ H1.size → (∀ q : Nat, q < H.size → ¬ AX q → H1[q]? = H[q]?) → va_S A0 H0 H1 locs1 → H1[q9]? = some ce → ce.vm = .none → s.vm.findClass E = some ce.cls → vx_W p l e R s m args below meth c H1 locs1 (cells + mc) (slots + ms) Q (F0 m pc ls rest) q9)
    (kk : ∀ (u : S) (t : State) (H1 : Heap) (locs1 : List Loc), t.heap = H1 → s.vm.Alike t.vm → post u → B u t → H.size ≤ H1.size → (∀ q : Nat, q < H.size → ¬ A1 q → H1[q]? = H[q]?) → va_S A0 H0 H1 locs1 → W p l e R s m args below meth c H1 locs1 (cells + mc) (slots + ms) Q (F0 m (pc + 3) ls (rest))) : W p l e R s m args below meth c H locs cells slots Q (F0 m pc ls st0) := by
  intro T hT X
  rcases hr T hT X with ⟨v, st₀, t, T', L, h0, X', hL, e1, e2, ⟨⟨u, hv, hp, hb⟩, hF⟩, st⟩ | ⟨q, st₀, t, T', L, E, ce, h0, X', hL, e1, e2, ⟨u, hp, hb, hF⟩, hce, hcv, hcl, st⟩
  · cases hv
    obtain ⟨k1, k2, k3⟩ := vx_keep h0 e1 hS hA hf hL hF
    obtain ⟨t2, a1, b1⟩ := kk u t T'.heap (locs ++ L) e1.symm (by rw [← e2]; exact X'.warmed.alike) hp hb k1 k2 k3 T' rfl X'
    exact ⟨t2, st t2 a1, b1⟩
  · obtain ⟨k1, k2, k3⟩ := vx_keep h0 e1 hS hAX hf hL hF
    obtain ⟨t2, a1, b1⟩ := kx E ce q u t T'.heap (locs ++ L) e1.symm (by rw [← e2]; exact X'.warmed.alike) hp hb k1 k2 k3 (by rw [e1]; exact hce) hcv hcl T' rfl X'
    exact ⟨t2, st.trans a1, b1⟩
/-- caught by the row x of this method's table; the rows ahead don't take it -/
theorem vx_catch {own name : String} {E : String} {ce : Cell} {q : Addr} (hown : s.vm.findClass own = some m.cls) (pre : List ExceptionTableEntry) (x : ExceptionTableEntry) (suf : List ExceptionTableEntry) (hsplit : c.exceptionTable.toList = pre ++ x :: suf)
    (hpass : ∀ z ∈ pre, covers z pc = false ∨ (z.catchType ≠ 0 ∧ ∃ nm : String, (Cond.classLink own z.catchType nm).before args s = true ∧ va_Nc E nm s)) (hx : covers x pc = true) (h0 : x.catchType ≠ 0)
    (hlink : (Cond.classLink own x.catchType name).before args s = true) (hcast : (Cond.castable E name).before args s = true) (hcell : H[q]? = some ce) (hv : ce.vm = .none) (hcl : s.vm.findClass E = some ce.cls)
    (kk : W p l e R s m args below meth c H locs cells slots Q (F0 m x.handlerPc ls [.ref q])) : vx_W p l e R s m args below meth c H locs cells slots Q (F0 m pc ls rest) q := by
  intro T hT X
  have hpl : e.platform.magicAccessors = ({} : Platform).magicAccessors := by rw [X.admits.platform]
  obtain ⟨c3, c4, hc3, hc4, hasg⟩ := Cond.castable_spec hcast
  cases Option.some.inj (hc3.symm.trans hcl)
  obtain ⟨c5, hc5, hcl5⟩ := Cond.classLink_spec hown hlink e.platform hpl
  cases Option.some.inj (hc4.symm.trans hc5)
  obtain ⟨vm', X', st⟩ := X.thenCaughtThrough q (g := F0 m pc ls rest) rfl (Steps.refl _) (by rw [hT]; exact hcell) (by rw [hv]; rfl) (by obtain ⟨k9, h9, -⟩ := Vm.findClass_spec hcl; exact ⟨k9, h9⟩) pre x suf hsplit
    (fun z hz => by
      rcases hpass z hz with h | ⟨hz0, nm, hl1, hn1⟩
      · exact Or.inl h
      · obtain ⟨c6, hc6, hcl6⟩ := Cond.classLink_spec hown hl1 e.platform hpl
        obtain ⟨a8, b8, h1, h2, h3⟩ := hn1
        cases Option.some.inj (h1.symm.trans hcl)
        cases Option.some.inj (h2.symm.trans hc6)
        exact Or.inr ⟨hz0, _, hcl6, h3⟩) hx (Or.inr ⟨h0, c4, hcl5, hasg⟩)
  obtain ⟨t, a1, b1⟩ := kk (T.setVm vm') hT X'
  exact ⟨t, st.trans a1, b1⟩
end Rows
section Ends
variable {p : Program} {l : Launch} {e : Env} {R : Room} {s : State} {m : MethodId} {args : Array Value} {below : List Frame} {meth : Method} {c : Code} {H : Heap} {locs : List Loc} {cells slots : Nat} {Q : State → Prop}
variable {mc ms : Nat} {free : Addr → Prop} {A0 A1 : Nat → Prop} {H0 : Heap} {a : Array Value} {ls : Array Slot} {st0 rest : List Value}
variable {Qc : Array Value → State → Outcome → State → Prop} {XC : String → State → State → Prop}
/-- what a body that may throw owes at its end -/
def vx_MQ (below : List Frame) (Qc : Array Value → State → Outcome → State → Prop) (XC : String → State → State → Prop) (a : Array Value) (s : State) (mc ms : Nat) (free : Addr → Prop) : State → Prop := fun t =>
  ∃ o, t.status = .running ∧ Ended t below o ∧ vx_Q Qc XC mc ms free a s o t
theorem vx_ret {g : JFrame} {mc ms : Nat} (k : W p l e R s m args below meth c H locs cells slots (MQ below Qc args s mc ms free) g) : W p l e R s m args below meth c H locs cells slots (vx_MQ below Qc XC args s mc ms free) g := by
  intro T hT X
  obtain ⟨t, a1, o, b1, b2, b3, b4⟩ := k T hT X
  exact ⟨t, a1, o, b1, b2, Or.inl ⟨b3, b4⟩⟩
/-- not caught here: it goes on to the caller -/
theorem vx_widen {g : JFrame} {q : Addr} {k n : Nat} (h1 : cells ≤ k) (h2 : slots ≤ n) (kk : vx_W p l e R s m args below meth c H locs k n Q g q) : vx_W p l e R s m args below meth c H locs cells slots Q g q := fun T hT X => kk T hT (stand_widen X h1 h2)
theorem vx_out {pc : Nat} {E : String} {ce : Cell} {q : Addr} {mc ms : Nat} (hout : ∀ x ∈ c.exceptionTable.toList, covers x pc = false) (hlocks : meth.locks = false) (hcell : H[q]? = some ce) (hv : ce.vm = .none) (hcl : s.vm.findClass E = some ce.cls)
    (hx : ∀ t : State, t.heap = H → s.vm.Alike t.vm → XC E s t) (hf : ∀ z ∈ locs, free z.base) (hc : cells ≤ mc) (hs : slots ≤ ms) :
    vx_W p l e R s m args below meth c H locs cells slots (vx_MQ below Qc XC args s mc ms free) (F0 m pc ls rest) q := by
  intro T hT X
  obtain ⟨st1, hrun, hend, hW, hsm⟩ := X.leaveThrown q (g := F0 m pc ls rest) rfl rfl rfl hout hlocks
  have hcell9 : (T.setFrames (.throwing q :: below)).heap[q]? = some ce := by
    show T.heap[q]? = some ce
    rw [hT]; exact hcell
  exact ⟨_, st1, .threw q, hrun, hend, Or.inr ⟨q, rfl, E, ce, locs, hx _ hT hW.alike, hcell9, hv, hcl, hW, hsm.mono hc hs, hf⟩⟩
theorem vx_frame {U : State} {k n : Nat} (h : s.sameButNew ({ U with vm := s.vm } : State) locs k n) : s.heap.size ≤ U.heap.size ∧ ∀ q : Nat, q < s.heap.size → (∀ z ∈ locs, z.base ≠ q) → U.heap[q]? = s.heap[q]? := by
  obtain ⟨-, h2, -, -, -, h6⟩ := h
  refine ⟨h2, fun q hq hz => ?_⟩
  obtain ⟨c9, e1, e2, e3, e4⟩ := h6 q _ (Array.getElem?_eq_getElem hq)
  have hs : c9.slots = (s.heap[q]).slots := Array.ext_getElem? fun i => e4 i fun hm => hz _ hm rfl
  have h9 : c9 = s.heap[q] := by
    rw [hs] at e2
    exact e2
  have e5 : U.heap[q]? = some c9 := e1
  rw [e5, h9, Array.getElem?_eq_getElem hq]
/-- the words of a throw but the four that speak of the heap -/
def vx_no (w : Cond) : Bool := decide (w ≠ .isRef (.static Bundle.tN "UNASSIGNED_STACK" Bundle.steD)) && decide (w ≠ .isRef (.static Bundle.tN "SUPPRESSED_SENTINEL" Bundle.listD)) && decide (w ≠ .laysStatic Bundle.tN "UNASSIGNED_STACK" Bundle.steD) && decide (w ≠ .laysStatic Bundle.tN "SUPPRESSED_SENTINEL" Bundle.listD)
def vx_at0 (own : String) (ic : Nat) (X : String) (names : List String) : List Cond := (Bundle.ownAtoms0 own ic X names).filter vx_no
def vx_atS (own : String) (ic : Nat) (X : String) (names : List String) : List Cond := (Bundle.ownAtoms own ic X names).filter vx_no
/-- a word that the tables alone decide, or a good one -/
def vx_ot (w : Cond) : Bool := w.onTables || goodWord w
theorem vx_ot_at {args a' : Array Value} {s U : State} {w : Cond} (hW : s.WarmedH U.vm) (hvm : s.vm = U.vm) (hg : vx_ot w = true) (h : w.before args s = true) : w.before a' U = true := by
  simp only [vx_ot, Bool.or_eq_true] at hg
  rcases hg with hg | hg
  · exact va_tabs hg hvm h
  · exact word_at hW (good_of_word hg) h
/-- a list's words: the good ones out of the method's own list, the others by premises of their own -/
theorem vx_hat {args : Array Value} {s : State} {L B : List Cond} (h1 : ∀ w ∈ L.filter goodWord, w.before args s = true) (h2 : ∀ w ∈ L.filter (fun w => !goodWord w), w ∈ B) (h3 : ∀ w ∈ B, w.before args s = true) : ∀ w ∈ L, w.before args s = true := by
  intro w hw
  by_cases g : goodWord w = true
  · exact h1 w (List.mem_filter.mpr ⟨hw, g⟩)
  · refine h3 w (h2 w (List.mem_filter.mpr ⟨hw, ?_⟩))
    show (!goodWord w) = true
    cases hgw : goodWord w
    · rfl
    · exact absurd hgw g
theorem vx_c {args : Array Value} {s : State} {w : Cond} {B : List Cond} (h : w.before args s = true) (t : ∀ w ∈ B, w.before args s = true) : ∀ w' ∈ w :: B, w'.before args s = true := fun w' h' => (List.mem_cons.mp h').elim (fun e => by rw [e]; exact h) (t w')
theorem vx_n {args : Array Value} {s : State} : ∀ w ∈ ([] : List Cond), w.before args s = true := fun _ h => nomatch h
theorem vx_own {args : Array Value} {s : State} {L : List Cond} (h1 : ∀ w ∈ L.filter vx_no, w.before args s = true)
    (hU : (Cond.isRef (.static Bundle.tN "UNASSIGNED_STACK" Bundle.steD)).before args s = true) (hN : (Cond.isRef (.static Bundle.tN "SUPPRESSED_SENTINEL" Bundle.listD)).before args s = true)
    (lU : (Cond.laysStatic Bundle.tN "UNASSIGNED_STACK" Bundle.steD).before args s = true) (lN : (Cond.laysStatic Bundle.tN "SUPPRESSED_SENTINEL" Bundle.listD).before args s = true) : ∀ w ∈ L, w.before args s = true := by
  intro w hw
  by_cases e1 : w = .isRef (.static Bundle.tN "UNASSIGNED_STACK" Bundle.steD)
  · rw [e1]; exact hU
  · by_cases e2 : w = .isRef (.static Bundle.tN "SUPPRESSED_SENTINEL" Bundle.listD)
    · rw [e2]; exact hN
    · by_cases e3 : w = .laysStatic Bundle.tN "UNASSIGNED_STACK" Bundle.steD
      · rw [e3]; exact lU
      · by_cases e4 : w = .laysStatic Bundle.tN "SUPPRESSED_SENTINEL" Bundle.listD
        · rw [e4]; exact lN
        · exact h1 w (List.mem_filter.mpr ⟨hw, by unfold vx_no; rw [decide_eq_true e1, decide_eq_true e2, decide_eq_true e3, decide_eq_true e4]; rfl⟩)
/-- where a static field lies, its class's statics cell in H -/
def vx_L (C n d : String) (A : Nat → Prop) (U : State) (H : Heap) : Prop := ∃ (c : ClassId) (k : Class) (i : Nat) (f : Field) (a : Nat) (cell : Cell), U.vm.findClass C = some c ∧ U.fieldFound? C n d = some (c, k, i, f) ∧ f.isStatic = true ∧ k.statics = some a ∧ H[a]? = some cell ∧ cell.vm.isStatics = true ∧ cell.cls = c ∧ f.slot < cell.slots.size ∧ k.staticTypes[f.slot]? = some f.type ∧ ¬ A a
theorem vx_L.moved {C n d : String} {A : Nat → Prop} {u U : State} {H : Heap} (hvm : u.vm.Alike U.vm) (h : vx_L C n d A u H) : vx_L C n d A U H := by
  obtain ⟨c, k, i, f, a, cell, h1, h2, h3, h4, h5, h6, h7, h8, h9, h10⟩ := h
  obtain ⟨k', hi', he⟩ := State.fieldFound?_setVm hvm h2
  exact ⟨c, k', i, f, a, cell, by rw [hvm.findClass]; exact h1, hi', h3, by rw [he]; exact h4, h5, h6, h7, h8, by rw [he]; exact h9, h10⟩
theorem vx_L.kept {C n d : String} {A : Nat → Prop} {U : State} {H H1 : Heap} (h : vx_L C n d A U H) (hq : ∀ a : Nat, a < H.size → ¬ A a → H1[a]? = H[a]?) : vx_L C n d A U H1 := by
  obtain ⟨c, k, i, f, a, cell, h1, h2, h3, h4, h5, h6, h7, h8, h9, h10⟩ := h
  exact ⟨c, k, i, f, a, cell, h1, h2, h3, h4, by rw [hq a (Array.getElem?_eq_some_iff.mp h5).1 h10]; exact h5, h6, h7, h8, h9, h10⟩
theorem vx_L.narrow {C n d : String} {A B : Nat → Prop} {U : State} {H : Heap} (h : vx_L C n d A U H) (hAB : ∀ q, B q → A q) : vx_L C n d B U H := by
  obtain ⟨c, k, i, f, a, cell, h1, h2, h3, h4, h5, h6, h7, h8, h9, h10⟩ := h
  exact ⟨c, k, i, f, a, cell, h1, h2, h3, h4, h5, h6, h7, h8, h9, fun z => h10 (hAB _ z)⟩
theorem vx_L.word {C n d : String} {A : Nat → Prop} {s : State} {args : Array Value} (h : vx_L C n d A s s.heap) : (Cond.laysStatic C n d).before args s = true := by
  obtain ⟨c, k, i, f, a, cell, h1, h2, h3, h4, h5, h6, h7, h8, h9, -⟩ := h
  show (Cond.laysStatic C n d).holds args s none s [] = true
  exact Cond.laysStatic_of h1 h2 h3 h4 h5 h6 h7 h8 h9
/-- .. and what it holds: null or some reference -/
def vx_Zq (C n d : String) (A : Nat → Prop) (U : State) (H : Heap) : Prop := va_Zq C n d A U H ∧ vx_L C n d A U H
theorem vx_Zq.moved {C n d : String} {A : Nat → Prop} {u U : State} {H : Heap} (hvm : u.vm.Alike U.vm) (h : vx_Zq C n d A u H) : vx_Zq C n d A U H := ⟨va_Zq.moved hvm h.1, vx_L.moved hvm h.2⟩
theorem vx_Zq.kept {C n d : String} {A : Nat → Prop} {U : State} {H H1 : Heap} (h : vx_Zq C n d A U H) (hq : ∀ a : Nat, a < H.size → ¬ A a → H1[a]? = H[a]?) : vx_Zq C n d A U H1 := ⟨va_Zq.kept h.1 hq, vx_L.kept h.2 hq⟩
theorem vx_Zq.narrow {C n d : String} {A B : Nat → Prop} {U : State} {H : Heap} (h : vx_Zq C n d A U H) (hAB : ∀ q, B q → A q) : vx_Zq C n d B U H := ⟨va_Zq.narrow h.1 hAB, vx_L.narrow h.2 hAB⟩
theorem vx_Zqof {args : Array Value} {s : State} {C n d : String} {A : Nat → Prop} (hl : (Cond.laysStatic C n d).before args s = true) (hini : (Cond.initialized C).before args s = true) (h : (Cond.isRef (.static C n d)).before args s = true) (hA : ∀ a : Nat, a < s.heap.size → ¬ A a) : vx_Zq C n d A s s.heap := by
  refine ⟨va_Zqof hl hini h hA, ?_⟩
  obtain ⟨c, k, i, f, a, cell, h1, h2, h3, h4, h5, h6, h7, h8, h9⟩ := Cond.laysStatic_spec hl
  exact ⟨c, k, i, f, a, cell, h1, h2, h3, h4, h5, h6, h7, h8, h9, hA a (Array.getElem?_eq_some_iff.mp h5).1⟩
theorem vx_isRef {C n d : String} {v : Value} {A : Nat → Prop} {s : State} {args : Array Value} (h : va_Z C n d v A s s.heap) (hv : v.isRef = true) : (Cond.isRef (.static C n d)).before args s = true := by
  obtain ⟨cf, kf, fi, f, a, cell, h1, h2, h3, h4, h5, h6, h7, -⟩ := h
  have he : (Term.static C n d).eval args s none [] s = some v := by
    simp [Term.eval, State.fieldNamed?, h1, h2, h4, h5, h6, h7]
  simp only [Cond.before, Cond.holds, Cond.value, he]
  cases v <;> simp_all [Value.isRef]
theorem vx_isRefq {C n d : String} {A : Nat → Prop} {s : State} {args : Array Value} (h : va_Zq C n d A s s.heap) : (Cond.isRef (.static C n d)).before args s = true := by
  rcases h with h | ⟨t, h⟩
  · exact vx_isRef h rfl
  · exact vx_isRef h rfl
/-- the same frame, seen from here: as if the method were called anew in this heap -/
theorem vx_rebase {T : State} (X : Stand p l e R s m args below meth c T locs cells slots) {R' : Room} (hf : R'.frames ≤ R.frames) (hl : R'.locals ≤ R.locals) (hc : cells + R'.cells ≤ R.cells) (hs : slots + R'.slots ≤ R.slots) :
    Stand p l e R' ((T.setVm s.vm).setFrames (.invoking m args :: below)) m args below meth c T [] 0 0 := by
  have htop : (T.setVm s.vm).topJava?.isSome := X.here.top
  have hF : ((T.setVm s.vm).setFrames (.invoking m args :: below)).frames = .invoking m args :: below := State.frames_setFrames _ (State.cur_lt_of_top htop)
  obtain ⟨g₀, hg0⟩ := Option.isSome_iff_exists.mp htop
  obtain ⟨r, hr⟩ := State.topJava?_eq_some.mp hg0
  have hl9 : e.platform.stackLimits (T.setVm s.vm).me = e.platform.stackLimits s.me := X.limits
  have hb9 : (T.setVm s.vm).me.stackBytes = s.me.stackBytes := X.bytes
  refine ⟨X.admits, X.cas, X.clock, hF, ?_, X.hears, X.method, X.code, X.here, X.tail, X.warmed, ?_, ?_, ?_⟩
  · have h := X.room
    have hU : ((T.setVm s.vm).setFrames (.invoking m args :: below)).localsInUse = s.localsInUse := by
      rw [State.localsInUse_invoking hF (meth := meth) (c := c) X.method X.code, State.localsInUse_invoking X.frames X.method X.code]
    simp only [State.hasRoom, Bool.and_eq_true, decide_eq_true_eq] at h ⊢
    obtain ⟨⟨⟨⟨h1, h2, h3, h4, h5, h6⟩, h7⟩, h8⟩, h9⟩ := h
    rw [X.frames, List.length_cons] at h2 h3
    have q1 := X.heapSize
    have q2 := X.used
    simp only [hF, hU, List.length_cons, State.stackLimits_setFrames, State.stackBytes_setFrames, hl9, hb9]
    refine ⟨⟨⟨⟨by omega, by omega, by omega, by omega, by omega, h6⟩, ?_⟩, ?_⟩, X.book⟩
    · show T.heap.size + R'.cells ≤ e.platform.maxCells
      omega
    · show T.slotsUsed + R'.slots ≤ e.platform.maxSlots
      omega
  · rw [State.stackLimits_setFrames]; rfl
  · rw [State.stackBytes_setFrames]; rfl
  · refine ⟨?_, Nat.le_refl _, Nat.le_refl _, ?_, ?_, fun a c9 h9 => ⟨c9, h9, rfl, rfl, fun _ _ => rfl⟩⟩
    · obtain ⟨t, ht, -⟩ := State.frames_cons hr
      show T.setVm s.vm = { ((T.setVm s.vm).setFrames (.invoking m args :: below)).setFrames (T.setVm s.vm).frames with heap := T.heap, slotsUsed := T.slotsUsed }
      rw [State.setFrames_setFrames, State.setFrames_self ht]
      rfl
    · show T.slotsUsed = T.slotsUsed + ((T.heap.toList.drop T.heap.size).map (·.slots.size)).sum
      rw [List.drop_eq_nil_of_le (Nat.le_of_eq Array.length_toList)]
      rfl
    · show ((T.heap.toList.drop T.heap.size).map (·.slots.size)).sum ≤ 0
      rw [List.drop_eq_nil_of_le (Nat.le_of_eq Array.length_toList)]
      exact Nat.le_refl _
/-- 'throw new E()': new; dup; invokespecial; athrow -/
theorem vx_throw0 {cc : ByteArray} {pc : Nat} (hexec : p.tables.exec = Jvm.exec) (hb : c.code = cc) (hl : l.stackTraces = false) {own cls : String} {names : List String} {ik ic mc ms : Nat} {A : Nat → Prop}
    (hown : s.vm.findClass own = some m.cls) (hcls : Bundle.fit cls = true) (hnames : ∀ n ∈ names, Bundle.fit n = true)
    (hk : (Cond.classLink own ik cls).before args s = true) (hini : (Cond.initialized cls).before args s = true) (hat : ∀ w ∈ vx_at0 own ic cls names, w.before args s = true)
    (hgood : ∀ w ∈ Cond.classLink own ik cls :: Cond.initialized cls :: vx_at0 own ic cls names, vx_ot w = true)
    (hU : vx_Zq Bundle.tN "UNASSIGNED_STACK" Bundle.steD A s s.heap) (hN : vx_Zq Bundle.tN "SUPPRESSED_SENTINEL" Bundle.listD A s s.heap) (hS : va_S A s.heap H locs) (hsize : ls.size = c.maxLocals)
    (d0 : decode cc pc = .ok (.new ik, 3)) (d3 : decode cc (pc + 3) = .ok (.dup, 1)) (d4 : decode cc (pc + 4) = .ok (.invokespecial ic, 3)) (d7 : decode cc (pc + 7) = .ok (.athrow, 1))
    (hout : ∀ x ∈ c.exceptionTable.toList, covers x (pc + 7) = false)
    (hRframes : names.length + 3 < R.frames) (hRlocals : (rest.map fun v => v.category).sum + (13 * (names.length + 1) + 42) ≤ R.locals) (hRcells : cells + 1 ≤ R.cells) (hRslots : slots + 6 ≤ R.slots) (hlocks : meth.locks = false)
    (hx : ∀ t : State, s.vm.Alike t.vm → H.size ≤ t.heap.size → (∀ q : Nat, q < H.size → t.heap[q]? = H[q]?) → XC cls s t)
    (hf : ∀ z ∈ locs, free z.base) (hc : cells + 1 ≤ mc) (hs : slots + 6 ≤ ms) :
    W p l e R s m args below meth c H locs cells slots (vx_MQ below Qc XC args s mc ms free) (F0 m pc ls rest) := by
  intro T hT X
  have htr : e.platform.stackTraces = false := (show e.platform.stackTraces = l.stackTraces by rw [X.admits.platform]).trans hl
  have Y := vx_rebase X (R' := { frames := R.frames, locals := R.locals, cells := 1, slots := 6 }) (Nat.le_refl _) (Nat.le_refl _) hRcells hRslots
  obtain ⟨s', hA⟩ : ∃ z, z = (T.setVm s.vm).setFrames (.invoking m args :: below) := ⟨_, rfl⟩
  rw [← hA] at Y
  have hvm : s'.vm = s.vm := by rw [hA]; rfl
  have hhp : s'.heap = H := by rw [hA]; exact hT
  have hW0 : s.WarmedH s'.vm := by rw [hvm]; exact State.WarmedH.refl s
  have hat' : ∀ w ∈ vx_at0 own ic cls names, w.before args s' = true := fun w hw => vx_ot_at hW0 hvm.symm (hgood w (List.mem_cons_of_mem _ (List.mem_cons_of_mem _ hw))) (hat w hw)
  have hk' : (Cond.classLink own ik cls).before args s' = true := vx_ot_at hW0 hvm.symm (hgood _ List.mem_cons_self) hk
  have hini' : (Cond.initialized cls).before args s' = true := vx_ot_at hW0 hvm.symm (hgood _ (List.mem_cons_of_mem _ List.mem_cons_self)) hini
  have hU' : vx_Zq Bundle.tN "UNASSIGNED_STACK" Bundle.steD A s' s'.heap := by rw [hhp]; exact vx_Zq.moved hW0.alike (hU.kept hS.2.1)
  have hN' : vx_Zq Bundle.tN "SUPPRESSED_SENTINEL" Bundle.listD A s' s'.heap := by rw [hhp]; exact vx_Zq.moved hW0.alike (hN.kept hS.2.1)
  have h : ∀ w ∈ Bundle.ownAtoms0 own ic cls names, w.before args s' = true := vx_own hat' (vx_isRefq hU'.1) (vx_isRefq hN'.1) hU'.2.word hN'.2.word
  have hown' : s'.vm.findClass own = some m.cls := by rw [hvm]; exact hown
  have hins : (Cond.instantiable cls 6).before args s' = true := h _ (by simp [Bundle.ownAtoms0])
  obtain ⟨vm₁, cX, kX, hfX, hkX, -, -, X₁, st1⟩ := Y.newCold hexec (own := own) (C := cls) (index := ik) (n := 6) hown' hk' hins hini'
    (g := F0 m pc ls rest) rfl (by rw [hb]; exact d0) (Nat.le_refl _) (Nat.le_refl _)
  generalize hT1 : (T.setVm vm₁).pushCell { cls := cX, slots := kX.instanceTypes.map defaultValue, vm := .none } = T1 at X₁ st1
  have hcat : (Value.ref T.heap.size).category = 1 := rfl
  have hcellA : T1.heap[T.heap.size]? = some (freshCell cX kX) := by rw [← hT1]; exact State.heap_pushCell_size _ _
  have d3' : decode c.code (pc + 3) = .ok (.dup, 1) := by rw [hb]; exact d3
  obtain ⟨U, hsteps, hrun, hend, hW, hsame, ce, hce, hO⟩ := X₁.ctorThrow0 hexec htr (own := own) (cls := cls) (names := names) (ic := ic) hown' hcls hnames h (fun x hx => nomatch hx) hfX hkX hcellA (by rw [hhp, hT]; exact Nat.le_refl _)
    (g := { method := m, pc := pc + 4, locals := ls, stack := .ref T.heap.size :: .ref T.heap.size :: rest, locked := none }) rfl hsize rfl rfl (rest := rest) rfl
    (by rw [hb]; exact d4) (by rw [hb]; exact d7) hout hRframes (by simp only [List.map_cons, List.sum_cons, hcat]; omega) hlocks
  obtain ⟨f1, f2⟩ := vx_frame hsame
  rw [hhp] at f1 f2
  have hWs : s.WarmedH U.vm := State.WarmedH.trans hW0 hW
  have hcl : s.vm.findClass cls = some ce.cls := by
    have h9 := hO.cls
    rw [hvm] at h9
    exact h9
  have hall : s.sameButNew ({ U with vm := s.vm } : State) locs mc ms := by
    subst hA
    obtain ⟨e1, e2⟩ := hsame
    rw [State.setFrames_setFrames] at e1
    have h2 : (T.setVm s.vm).sameButNew ({ U with vm := s.vm } : State) [] (0 + 1) (0 + 6) := ⟨e1, e2⟩
    have h3 := X.same.trans h2
    rw [List.append_nil] at h3
    exact h3.mono hc hs
  refine ⟨U, ?_, .threw T.heap.size, hrun, hend, Or.inr ⟨T.heap.size, rfl, cls, ce, locs, hx U hWs.alike f1 (fun q hq => f2 q hq (fun z hz => nomatch hz)), hce, hO.vm, hcl, hWs, hall, hf⟩⟩
  refine st1 _ ?_
  show Steps p.tables e below (T1.setTop { method := m, pc := pc + 3, locals := ls, stack := .ref T.heap.size :: rest, locked := none }) _
  jvm_step X₁.here [X₁.here.top, hexec, d3', Value.category]
  exact hsteps
/-- 'throw new E("text")': new; dup; ldc; invokespecial; athrow -/
theorem vx_throwS {cc : ByteArray} {pc : Nat} (hexec : p.tables.exec = Jvm.exec) (hb : c.code = cc) (hl : l.stackTraces = false) {own cls text : String} {names : List String} {ik is ic mc ms sa : Nat} {A : Nat → Prop}
    (hown : s.vm.findClass own = some m.cls) (hcls : Bundle.fit cls = true) (hnames : ∀ n ∈ names, Bundle.fit n = true)
    (hk : (Cond.classLink own ik cls).before args s = true) (hini : (Cond.initialized cls).before args s = true) (hstr : vk_R own is text sa s) (hat : ∀ w ∈ vx_atS own ic cls names, w.before args s = true)
    (hgood : ∀ w ∈ Cond.classLink own ik cls :: Cond.initialized cls :: vx_atS own ic cls names, vx_ot w = true)
    (hU : vx_Zq Bundle.tN "UNASSIGNED_STACK" Bundle.steD A s s.heap) (hN : vx_Zq Bundle.tN "SUPPRESSED_SENTINEL" Bundle.listD A s s.heap) (hS : va_S A s.heap H locs) (hsize : ls.size = c.maxLocals)
    (d0 : decode cc pc = .ok (.new ik, 3)) (d3 : decode cc (pc + 3) = .ok (.dup, 1)) (d4 : decode cc (pc + 4) = .ok (.ldc is, 2)) (d6 : decode cc (pc + 6) = .ok (.invokespecial ic, 3)) (d9 : decode cc (pc + 9) = .ok (.athrow, 1))
    (hout : ∀ x ∈ c.exceptionTable.toList, covers x (pc + 9) = false)
    (hRframes : names.length + 3 < R.frames) (hRlocals : (rest.map fun v => v.category).sum + (13 * (names.length + 1) + 43) ≤ R.locals) (hRcells : cells + 1 ≤ R.cells) (hRslots : slots + 6 ≤ R.slots) (hlocks : meth.locks = false)
    (hx : ∀ t : State, s.vm.Alike t.vm → H.size ≤ t.heap.size → (∀ q : Nat, q < H.size → t.heap[q]? = H[q]?) → XC cls s t)
    (hf : ∀ z ∈ locs, free z.base) (hc : cells + 1 ≤ mc) (hs : slots + 6 ≤ ms) :
    W p l e R s m args below meth c H locs cells slots (vx_MQ below Qc XC args s mc ms free) (F0 m pc ls rest) := by
  intro T hT X
  have htr : e.platform.stackTraces = false := (show e.platform.stackTraces = l.stackTraces by rw [X.admits.platform]).trans hl
  have Y := vx_rebase X (R' := { frames := R.frames, locals := R.locals, cells := 1, slots := 6 }) (Nat.le_refl _) (Nat.le_refl _) hRcells hRslots
  obtain ⟨s', hA⟩ : ∃ z, z = (T.setVm s.vm).setFrames (.invoking m args :: below) := ⟨_, rfl⟩
  rw [← hA] at Y
  have hvm : s'.vm = s.vm := by rw [hA]; rfl
  have hhp : s'.heap = H := by rw [hA]; exact hT
  have hW0 : s.WarmedH s'.vm := by rw [hvm]; exact State.WarmedH.refl s
  have hat' : ∀ w ∈ vx_atS own ic cls names, w.before args s' = true := fun w hw => vx_ot_at hW0 hvm.symm (hgood w (List.mem_cons_of_mem _ (List.mem_cons_of_mem _ hw))) (hat w hw)
  have hk' : (Cond.classLink own ik cls).before args s' = true := vx_ot_at hW0 hvm.symm (hgood _ List.mem_cons_self) hk
  have hini' : (Cond.initialized cls).before args s' = true := vx_ot_at hW0 hvm.symm (hgood _ (List.mem_cons_of_mem _ List.mem_cons_self)) hini
  have hU' : vx_Zq Bundle.tN "UNASSIGNED_STACK" Bundle.steD A s' s'.heap := by rw [hhp]; exact vx_Zq.moved hW0.alike (hU.kept hS.2.1)
  have hN' : vx_Zq Bundle.tN "SUPPRESSED_SENTINEL" Bundle.listD A s' s'.heap := by rw [hhp]; exact vx_Zq.moved hW0.alike (hN.kept hS.2.1)
  have h : ∀ w ∈ Bundle.ownAtoms own ic cls names, w.before args s' = true := vx_own hat' (vx_isRefq hU'.1) (vx_isRefq hN'.1) hU'.2.word hN'.2.word
  have hown' : s'.vm.findClass own = some m.cls := by rw [hvm]; exact hown
  have hins : (Cond.instantiable cls 6).before args s' = true := h _ (by simp [Bundle.ownAtoms])
  obtain ⟨vm₁, cX, kX, hfX, hkX, -, -, X₁, st1⟩ := Y.newCold hexec (own := own) (C := cls) (index := ik) (n := 6) hown' hk' hins hini'
    (g := F0 m pc ls rest) rfl (by rw [hb]; exact d0) (Nat.le_refl _) (Nat.le_refl _)
  generalize hT1 : (T.setVm vm₁).pushCell { cls := cX, slots := kX.instanceTypes.map defaultValue, vm := .none } = T1 at X₁ st1
  have hcat : (Value.ref T.heap.size).category = 1 := rfl
  have hcellA : T1.heap[T.heap.size]? = some (freshCell cX kX) := by rw [← hT1]; exact State.heap_pushCell_size _ _
  have d3' : decode c.code (pc + 3) = .ok (.dup, 1) := by rw [hb]; exact d3
  have d4' : decode c.code (pc + 4) = .ok (.ldc is, 2) := by rw [hb]; exact d4
  have hstr' : vk_R own is text sa s' := vk_R.warm hW0 hstr
  obtain ⟨U, hsteps, hrun, hend, hW, hsame, ce, hce, hO⟩ := X₁.ctorThrowS hexec htr (own := own) (cls := cls) (names := names) (ic := ic) hown' hcls hnames h (fun x hx => nomatch hx) hfX hkX hcellA (by rw [hhp, hT]; exact Nat.le_refl _) (msg := .ref sa) rfl
    (g := { method := m, pc := pc + 6, locals := ls, stack := .ref sa :: .ref T.heap.size :: .ref T.heap.size :: rest, locked := none }) rfl hsize rfl rfl (rest := rest) rfl
    (by rw [hb]; exact d6) (by rw [hb]; exact d9) hout hRframes (by simp only [List.map_cons, List.sum_cons, hcat]; omega) hlocks
  obtain ⟨f1, f2⟩ := vx_frame hsame
  rw [hhp] at f1 f2
  have hWs : s.WarmedH U.vm := State.WarmedH.trans hW0 hW
  have hcl : s.vm.findClass cls = some ce.cls := by
    have h9 := hO.cls
    rw [hvm] at h9
    exact h9
  have hall : s.sameButNew ({ U with vm := s.vm } : State) locs mc ms := by
    subst hA
    obtain ⟨e1, e2⟩ := hsame
    rw [State.setFrames_setFrames] at e1
    have h2 : (T.setVm s.vm).sameButNew ({ U with vm := s.vm } : State) [] (0 + 1) (0 + 6) := ⟨e1, e2⟩
    have h3 := X.same.trans h2
    rw [List.append_nil] at h3
    exact h3.mono hc hs
  refine ⟨U, ?_, .threw T.heap.size, hrun, hend, Or.inr ⟨T.heap.size, rfl, cls, ce, locs, hx U hWs.alike f1 (fun q hq => f2 q hq (fun z hz => nomatch hz)), hce, hO.vm, hcl, hWs, hall, hf⟩⟩
  refine st1 _ ?_
  show Steps p.tables e below (T1.setTop { method := m, pc := pc + 3, locals := ls, stack := .ref T.heap.size :: rest, locked := none }) _
  jvm_step X₁.here [X₁.here.top, hexec, d3', Value.category]
  exact X₁.ldcString hexec (own := own) (text := text) (index := is) (a := sa) hown' hstr'.1 hstr'.2
    (g := { method := m, pc := pc + 4, locals := ls, stack := .ref T.heap.size :: .ref T.heap.size :: rest, locked := none }) rfl d4' _ hsteps
/-- 'throw new E("text")', the text by a wide index -/
theorem vx_throwSW {cc : ByteArray} {pc : Nat} (hexec : p.tables.exec = Jvm.exec) (hb : c.code = cc) (hl : l.stackTraces = false) {own cls text : String} {names : List String} {ik is ic mc ms sa : Nat} {A : Nat → Prop}
    (hown : s.vm.findClass own = some m.cls) (hcls : Bundle.fit cls = true) (hnames : ∀ n ∈ names, Bundle.fit n = true)
    (hk : (Cond.classLink own ik cls).before args s = true) (hini : (Cond.initialized cls).before args s = true) (hstr : vk_R own is text sa s) (hat : ∀ w ∈ vx_atS own ic cls names, w.before args s = true)
    (hgood : ∀ w ∈ Cond.classLink own ik cls :: Cond.initialized cls :: vx_atS own ic cls names, vx_ot w = true)
    (hU : vx_Zq Bundle.tN "UNASSIGNED_STACK" Bundle.steD A s s.heap) (hN : vx_Zq Bundle.tN "SUPPRESSED_SENTINEL" Bundle.listD A s s.heap) (hS : va_S A s.heap H locs) (hsize : ls.size = c.maxLocals)
    (d0 : decode cc pc = .ok (.new ik, 3)) (d3 : decode cc (pc + 3) = .ok (.dup, 1)) (d4 : decode cc (pc + 4) = .ok (.ldc_w is, 3)) (d7 : decode cc (pc + 7) = .ok (.invokespecial ic, 3)) (d10 : decode cc (pc + 10) = .ok (.athrow, 1))
    (hout : ∀ x ∈ c.exceptionTable.toList, covers x (pc + 10) = false)
    (hRframes : names.length + 3 < R.frames) (hRlocals : (rest.map fun v => v.category).sum + (13 * (names.length + 1) + 43) ≤ R.locals) (hRcells : cells + 1 ≤ R.cells) (hRslots : slots + 6 ≤ R.slots) (hlocks : meth.locks = false)
    (hx : ∀ t : State, s.vm.Alike t.vm → H.size ≤ t.heap.size → (∀ q : Nat, q < H.size → t.heap[q]? = H[q]?) → XC cls s t)
    (hf : ∀ z ∈ locs, free z.base) (hc : cells + 1 ≤ mc) (hs : slots + 6 ≤ ms) :
    W p l e R s m args below meth c H locs cells slots (vx_MQ below Qc XC args s mc ms free) (F0 m pc ls rest) := by
  intro T hT X
  have htr : e.platform.stackTraces = false := (show e.platform.stackTraces = l.stackTraces by rw [X.admits.platform]).trans hl
  have Y := vx_rebase X (R' := { frames := R.frames, locals := R.locals, cells := 1, slots := 6 }) (Nat.le_refl _) (Nat.le_refl _) hRcells hRslots
  obtain ⟨s', hA⟩ : ∃ z, z = (T.setVm s.vm).setFrames (.invoking m args :: below) := ⟨_, rfl⟩
  rw [← hA] at Y
  have hvm : s'.vm = s.vm := by rw [hA]; rfl
  have hhp : s'.heap = H := by rw [hA]; exact hT
  have hW0 : s.WarmedH s'.vm := by rw [hvm]; exact State.WarmedH.refl s
  have hat' : ∀ w ∈ vx_atS own ic cls names, w.before args s' = true := fun w hw => vx_ot_at hW0 hvm.symm (hgood w (List.mem_cons_of_mem _ (List.mem_cons_of_mem _ hw))) (hat w hw)
  have hk' : (Cond.classLink own ik cls).before args s' = true := vx_ot_at hW0 hvm.symm (hgood _ List.mem_cons_self) hk
  have hini' : (Cond.initialized cls).before args s' = true := vx_ot_at hW0 hvm.symm (hgood _ (List.mem_cons_of_mem _ List.mem_cons_self)) hini
  have hU' : vx_Zq Bundle.tN "UNASSIGNED_STACK" Bundle.steD A s' s'.heap := by rw [hhp]; exact vx_Zq.moved hW0.alike (hU.kept hS.2.1)
  have hN' : vx_Zq Bundle.tN "SUPPRESSED_SENTINEL" Bundle.listD A s' s'.heap := by rw [hhp]; exact vx_Zq.moved hW0.alike (hN.kept hS.2.1)
  have h : ∀ w ∈ Bundle.ownAtoms own ic cls names, w.before args s' = true := vx_own hat' (vx_isRefq hU'.1) (vx_isRefq hN'.1) hU'.2.word hN'.2.word
  have hown' : s'.vm.findClass own = some m.cls := by rw [hvm]; exact hown
  have hins : (Cond.instantiable cls 6).before args s' = true := h _ (by simp [Bundle.ownAtoms])
  obtain ⟨vm₁, cX, kX, hfX, hkX, -, -, X₁, st1⟩ := Y.newCold hexec (own := own) (C := cls) (index := ik) (n := 6) hown' hk' hins hini'
    (g := F0 m pc ls rest) rfl (by rw [hb]; exact d0) (Nat.le_refl _) (Nat.le_refl _)
  generalize hT1 : (T.setVm vm₁).pushCell { cls := cX, slots := kX.instanceTypes.map defaultValue, vm := .none } = T1 at X₁ st1
  have hcat : (Value.ref T.heap.size).category = 1 := rfl
  have hcellA : T1.heap[T.heap.size]? = some (freshCell cX kX) := by rw [← hT1]; exact State.heap_pushCell_size _ _
  have d3' : decode c.code (pc + 3) = .ok (.dup, 1) := by rw [hb]; exact d3
  have d4' : decode c.code (pc + 4) = .ok (.ldc_w is, 3) := by rw [hb]; exact d4
  have hstr' : vk_R own is text sa s' := vk_R.warm hW0 hstr
  obtain ⟨U, hsteps, hrun, hend, hW, hsame, ce, hce, hO⟩ := X₁.ctorThrowS hexec htr (own := own) (cls := cls) (names := names) (ic := ic) hown' hcls hnames h (fun x hx => nomatch hx) hfX hkX hcellA (by rw [hhp, hT]; exact Nat.le_refl _) (msg := .ref sa) rfl
    (g := { method := m, pc := pc + 7, locals := ls, stack := .ref sa :: .ref T.heap.size :: .ref T.heap.size :: rest, locked := none }) rfl hsize rfl rfl (rest := rest) rfl
    (by rw [hb]; exact d7) (by rw [hb]; exact d10) hout hRframes (by simp only [List.map_cons, List.sum_cons, hcat]; omega) hlocks
  obtain ⟨f1, f2⟩ := vx_frame hsame
  rw [hhp] at f1 f2
  have hWs : s.WarmedH U.vm := State.WarmedH.trans hW0 hW
  have hcl : s.vm.findClass cls = some ce.cls := by
    have h9 := hO.cls
    rw [hvm] at h9
    exact h9
  have hall : s.sameButNew ({ U with vm := s.vm } : State) locs mc ms := by
    subst hA
    obtain ⟨e1, e2⟩ := hsame
    rw [State.setFrames_setFrames] at e1
    have h2 : (T.setVm s.vm).sameButNew ({ U with vm := s.vm } : State) [] (0 + 1) (0 + 6) := ⟨e1, e2⟩
    have h3 := X.same.trans h2
    rw [List.append_nil] at h3
    exact h3.mono hc hs
  refine ⟨U, ?_, .threw T.heap.size, hrun, hend, Or.inr ⟨T.heap.size, rfl, cls, ce, locs, hx U hWs.alike f1 (fun q hq => f2 q hq (fun z hz => nomatch hz)), hce, hO.vm, hcl, hWs, hall, hf⟩⟩
  refine st1 _ ?_
  show Steps p.tables e below (T1.setTop { method := m, pc := pc + 3, locals := ls, stack := .ref T.heap.size :: rest, locked := none }) _
  jvm_step X₁.here [X₁.here.top, hexec, d3', Value.category]
  exact X₁.ldcStringW hexec (own := own) (text := text) (index := is) (a := sa) hown' hstr'.1 hstr'.2
    (g := { method := m, pc := pc + 4, locals := ls, stack := .ref T.heap.size :: .ref T.heap.size :: rest, locked := none }) rfl d4' _ hsteps
end Ends
section Bodies
variable {l : Launch}
theorem vx_ofW {y : MethodName} {ws ws' : List Cond} {rm : Room} {Pc : Array Value → State → Prop} {Qc : Array Value → State → Outcome → State → Prop} {XC : String → State → State → Prop} {mc ms : Nat} {free : Addr → Prop} {cc : ByteArray} {maxL : Nat} {ret : Option FieldType}
    (hy : plainName y.cls = true) (hw : ws = Cond.code y cc maxL ret :: ws')
    (body : ∀ p e s m args below meth c s₁, BodyLoose p l y (headSpec ws rm) cc maxL ret e s m args below meth c s₁ → c.maxLocals = maxL → (∀ x ∈ c.exceptionTable.toList, False) → Pc args s →
      W p l e (headSpec ws rm).room s m args below meth c s.heap [] 0 0 (vx_MQ below Qc XC args s mc ms free) (entryFrame m args maxL)) : vx_Met l y ws rm Pc Qc XC mc ms free := by
  refine MetFree.of_bodyS (code := cc) (maxLocals := maxL) (ret := ret) hy ?_ ?_
  · intro args s m h hn
    obtain ⟨meth, c, h1, h2, h3, h4, h5, h6, -, -⟩ := Cond.code_spec hn (atoms_spec (ws := ws) h _ (by rw [hw]; exact List.mem_cons_self))
    exact ⟨meth, c, h1, h2, h3, h4, h5, h6⟩
  · intro p e s m args below meth c s₁ B hml hP _
    have hh0 : s₁.heap = s.heap := by rw [B.state]; rfl
    have ht : ∀ x ∈ c.exceptionTable.toList, False := by
      obtain ⟨meth9, c9, h1, h2, -, -, -, -, h7, -⟩ := Cond.code_spec B.named (atoms_spec (ws := ws) B.pre _ (by rw [hw]; exact List.mem_cons_self))
      cases Option.some.inj (h1.symm.trans B.method)
      cases Option.some.inj (h2.symm.trans (Stand.of_body B).code)
      intro x hx
      rw [Array.isEmpty_iff.mp h7] at hx
      cases hx
    obtain ⟨t, a1, o, b1, b2, b3⟩ := body p e s m args below meth c s₁ B hml ht hP s₁ hh0 (Stand.of_body B)
    exact ⟨t, o, a1, b1, b2, b3⟩
/-- the table of a body with handlers -/
theorem vx_table {p : Program} {x y : MethodName} {S : Spec} {cc bytes : ByteArray} {maxL maxL' : Nat} {ret ret' : Option FieldType} {e : Env} {s s₁ : State} {m : MethodId} {args : Array Value} {below : List Frame} {meth : Method} {c : Code} {hh : List (Nat × Nat × Nat × Nat)}
    (B : BodyLoose p l y S cc maxL ret e s m args below meth c s₁) (h : (Cond.codeWith y bytes maxL' ret' hh).before args s = true) : c.exceptionTable.toList = tableOf hh := by
  obtain ⟨m9, meth9, c9, hn9, h1, h2, -, -, h6, -⟩ := Cond.codeWith_spec h
  cases Option.some.inj (hn9.symm.trans B.named)
  cases Option.some.inj (h1.symm.trans B.method)
  cases Option.some.inj (h2.symm.trans (Stand.of_body B).code)
  rw [← h6, table_eq]
end Bodies
end VXA
/-! ===== END ===== -/
/-! ===== BEGIN a static call of a method with an exception table ===== -/
section VXS
variable {p : Program} {l : Launch} {e : Env} {R : Room} {s : State} {m : MethodId} {args : Array Value} {below : List Frame} {meth : Method} {c : Code} {T : State} {H : Heap} {locs : List Loc} {cells slots : Nat}
abbrev vx_CSW (R : Room) (s : State) (args : Array Value) (own : String) (index : Nat) (y : MethodName) (bytes : ByteArray) (maxL : Nat) (ret : Option FieldType) (hh : List (Nat × Nat × Nat × Nat)) (ws : List Cond) (rm : Room) (mc ms n : Nat) : Prop :=
  (rm.cells = mc ∧ rm.slots = ms ∧ rm.frames + 1 ≤ R.frames ∧ 8 + (maxL + 11) + rm.locals ≤ R.locals ∧ (∀ w ∈ ws, ∀ (a' : Array Value) (U : State), s.WarmedH U.vm → w.before a' U = true) ∧ Cond.codeWith y bytes maxL ret hh ∈ ws) ∧
  (Cond.codeWith y bytes maxL ret hh).before args s = true ∧ (Cond.initialized y.cls).before args s = true ∧ (y.cls ≠ "java/lang/invoke/MethodHandle" ∧ y.cls ≠ "java/lang/invoke/VarHandle") ∧
  (∀ sig, parseMethodDescriptor y.desc = some sig → n = sig.parameters.length) ∧ (Cond.methodLink own index y).before args s = true ∧ (Cond.static y).before args s = true
theorem vx_cwSW {own : String} {index maxL mc ms : Nat} {y : MethodName} {bytes : ByteArray} {ret : Option FieldType} {hh : List (Nat × Nat × Nat × Nat)} {Ts ws ws' : List Cond} {rm : Room} (n : Nat) (ht : ∀ w ∈ Ts, w.before args s = true) (hT : GoodIn Ts (va_wsS own index y ws)) (hw : ws = Cond.codeWith y bytes maxL ret hh :: ws') (hrc : rm.cells = mc) (hrs : rm.slots = ms)
    (hd : y.cls ≠ "java/lang/invoke/MethodHandle" ∧ y.cls ≠ "java/lang/invoke/VarHandle" ∧ (parseMethodDescriptor y.desc).map (fun d => d.parameters.length) = some n) (hR : rm.frames + 1 ≤ R.frames ∧ 8 + (maxL + 11) + rm.locals ≤ R.locals) :
    vx_CSW R s args own index y bytes maxL ret hh ws rm mc ms n := by
  have ok : ∀ w ∈ va_wsS own index y ws, w.before args s = true := fun w h => ht w (hT w h).1
  have hG : GoodIn Ts ws := fun w h => hT w (by unfold va_wsS; exact List.mem_append_right _ h)
  have hc : Cond.codeWith y bytes maxL ret hh ∈ ws := by rw [hw]; exact List.mem_cons_self
  refine ⟨⟨hrc, hrs, hR.1, hR.2, pay_in ht hG, hc⟩, ht _ (hG _ hc).1, ok _ (by simp [va_wsS]), ⟨hd.1, hd.2.1⟩, fun sig h => ?_, ok _ (by simp [va_wsS]), ok _ (by simp [va_wsS])⟩
  have h2 := hd.2.2
  rw [h] at h2
  exact (Option.some.inj h2).symm
theorem vx_callSW (X : Stand p l e R s m args below meth c T locs cells slots) (hexec : p.tables.exec = Jvm.exec) {own : String} {index : Nat} {y : MethodName} {bytes : ByteArray} {maxL : Nat} {ret : Option FieldType} {hh : List (Nat × Nat × Nat × Nat)}
    (hown : s.vm.findClass own = some m.cls) (hlink : (Cond.methodLink own index y).before args s = true) (hstat : (Cond.static y).before args s = true) (hinit : (Cond.initialized y.cls).before args s = true)
    (hcode : (Cond.codeWith y bytes maxL ret hh).before args s = true) (hy : y.cls ≠ "java/lang/invoke/MethodHandle" ∧ y.cls ≠ "java/lang/invoke/VarHandle")
    {W9 : Nat} {Pre : Pt → Array Value → Prop} {Post : Pt → Array Value → Option Value → Pt → Prop} (hK : Back l R p e below s args y 3 W9 Pre Post)
    {g : JFrame} (hg : g.method = m) (hsize : g.locals.size = c.maxLocals) {argsL rest : List Value} (hlen : ∀ sig, parseMethodDescriptor y.desc = some sig → argsL.length = sig.parameters.length)
    (hstack : g.stack = argsL.reverse ++ rest) (hW : 2 * g.monitorRoom + (rest.map fun v => v.category).sum ≤ W9) (hdg : decode c.code g.pc = .ok (.invokestatic index, 3))
    (hpre : ∀ vm₁, s.WarmedH vm₁ → Pre ⟨T.setVm vm₁, locs, cells, slots⟩ argsL.toArray) :
    ∃ (v : Option Value) (vm₁ : Vm) (B : Pt), s.WarmedH vm₁ ∧ Stand p l e R s m args below meth c B.U B.locs B.cells B.slots ∧ Post ⟨T.setVm vm₁, locs, cells, slots⟩ argsL.toArray v B ∧
      ∀ target, Steps p.tables e below (B.U.setTop { g with pc := g.pc + 3, stack := v.toList ++ rest }) target → Steps p.tables e below (T.setTop g) target := by
  obtain ⟨mk, methM, cM, hnamed, hmethM, -, -, -, -, -, -, hsigM⟩ := Cond.codeWith_spec hcode
  have hstatic : methM.isStatic = true := Cond.static_spec hnamed hmethM hstat
  obtain ⟨kP, hkP, -⟩ := className_of_methodNamed hnamed
  have hinitP : kP.init = .initialized := Cond.initialized_spec (findClass_of_methodNamed hnamed) hkP hinit
  obtain ⟨vm₁, X₁, hstep₁⟩ := X.invokestatic hexec hown hlink hnamed hmethM hstatic hkP hinitP hy (g := g) hg (argsL := argsL) (rest := rest) (hlen _ hsigM) hstack hdg
  obtain ⟨v, B, X', hpost, hsteps⟩ := hK m meth c ⟨T.setVm vm₁, locs, cells, slots⟩ { g with stack := rest } (.invokestatic index) mk argsL.toArray X₁ hg hsize hdg hW (X₁.named hnamed) (hpre vm₁ X₁.warmed)
  exact ⟨v, vm₁, B, X₁.warmed, X', hpost, fun target h => hstep₁ _ fun acts => by rw [doInvoke_state]; exact hsteps.trans h⟩
theorem vx_runSW {y : MethodName} {bytes cc : ByteArray} {maxL nL mc ms n index : Nat} {ret : Option FieldType} {hh : List (Nat × Nat × Nat × Nat)} {ws : List Cond} {rm : Room} {Pc : Array Value → State → Prop} {Qc : Array Value → State → Outcome → State → Prop} {free : Addr → Prop} {Ts : List Cond} {own : String} {As rest : List Value} {g : JFrame}
    (S : CallFix p m c cc nL s args Ts own) (hM : Met l y ws rm Pc Qc mc ms free) (cw : vx_CSW R s args own index y bytes maxL ret hh ws rm mc ms n) (hp : PreS s H Pc As)
    (hg : g.method = m) (hn : As.length = n) (hsize : g.locals.size = nL) (hstack : g.stack = As.reverse ++ rest) (hW : 2 * g.monitorRoom + (rest.map fun v => v.category).sum ≤ 8) (hdg : decode cc g.pc = .ok (.invokestatic index, 3)) (hf : cells + mc ≤ R.cells ∧ slots + ms ≤ R.slots) :
    va_Run p l e R s m args below meth c H locs cells slots mc ms g rest (Qc As.toArray) (free) := by
  obtain ⟨⟨hrc, hrs, hfr, hlo, hws, hcw⟩, hcode, hini, hy, hlen, hl, hstt⟩ := cw
  have hK : Back l R p e below s args y 3 8 (PreOf R mc ms Pc) (PostOf Qc mc ms free) := va_backW (hh := hh) (bytes := bytes) (maxL := maxL) (ret := ret) hM hp.1 hrc hrs hfr hlo hws hcw (fun a' U hW => word_at hW (Or.inl (by first | rfl | simp [Cond.onTables, Cond.keeps, Cond.steady])) hini)
  obtain ⟨hx, hb, hml, ho, -⟩ := S
  intro T hT X
  obtain ⟨v, vm₁, ⟨U', l2, c2, s2⟩, hW₁, X', ⟨g', mk, t, L, e1, e2, hq, h1, hL, h2, h3⟩, st⟩ := vx_callSW X hx (hh := hh) (bytes := bytes) (maxL := maxL) (ret := ret) ho hl hstt hini hcode hy hK hg (hsize.trans hml.symm) (argsL := As) (rest := rest) (fun sig h => hn.trans (hlen sig h)) hstack hW (by rw [hb]; exact hdg)
    (fun vm₁ hW₁ => ⟨hf.1, hf.2, hp.2 (T.setVm vm₁) hT hW₁⟩)
  dsimp only [Pt.U, Pt.locs, Pt.cells, Pt.slots] at X' e1 e2 h1 h2 h3 st
  subst h1; subst h2; subst h3
  exact ⟨v, (T.setVm vm₁).calling g' mk As.toArray, t, U', L, hT, X', hL, e1, e2, hq, st⟩
/-- not caught here, past rows that name other classes: it goes on to the caller -/
theorem vx_outP {p : Program} {l : Launch} {e : Env} {R : Room} {s : State} {m : MethodId} {args : Array Value} {below : List Frame} {meth : Method} {c : Code} {H : Heap} {locs : List Loc} {cells slots : Nat} {free : Addr → Prop} {ls : Array Slot} {rest : List Value} {Qc : Array Value → State → Outcome → State → Prop} {XC : String → State → State → Prop}
    {pc : Nat} {own E : String} {ce : Cell} {q : Addr} {mc ms : Nat} (hown : s.vm.findClass own = some m.cls) (hlocks : meth.locks = false)
    (hpass : ∀ z ∈ c.exceptionTable.toList, covers z pc = false ∨ (z.catchType ≠ 0 ∧ ∃ nm : String, (Cond.classLink own z.catchType nm).before args s = true ∧ va_Nc E nm s)) (hcell : H[q]? = some ce) (hv : ce.vm = .none) (hcl : s.vm.findClass E = some ce.cls)
    (hx : ∀ t : State, t.heap = H → s.vm.Alike t.vm → XC E s t) (hf : ∀ z ∈ locs, free z.base) (hc : cells ≤ mc) (hs : slots ≤ ms) :
    vx_W p l e R s m args below meth c H locs cells slots (vx_MQ below Qc XC args s mc ms free) (F0 m pc ls rest) q := by
  intro T hT X
  have hpl : e.platform.magicAccessors = ({} : Platform).magicAccessors := by rw [X.admits.platform]
  obtain ⟨vm', hW', X', st⟩ := X.outThrough hlocks q (g := F0 m pc ls rest) rfl rfl rfl (cell := ce) (by rw [hT]; exact hcell) (by rw [hv]; rfl)
    (by obtain ⟨k9, h9, -⟩ := Vm.findClass_spec hcl; exact ⟨k9, h9⟩) (fun z hz => by
      rcases hpass z hz with h | ⟨hz0, nm, hl1, hn1⟩
      · exact Or.inl h
      · obtain ⟨c6, hc6, hcl6⟩ := Cond.classLink_spec hown hl1 e.platform hpl
        obtain ⟨a8, b8, h1, h2, h3⟩ := hn1
        cases Option.some.inj (h1.symm.trans hcl)
        cases Option.some.inj (h2.symm.trans hc6)
        exact Or.inr ⟨hz0, _, hcl6, h3⟩)
  obtain ⟨g₀, hfr⟩ := X'.frames_eq
  have hcell9 : ((T.setVm vm').setFrames (.throwing q :: below)).heap[q]? = some ce := by
    show T.heap[q]? = some ce
    rw [hT]; exact hcell
  have hend : Ended ((T.setVm vm').setFrames (.throwing q :: below)) below (.threw q) := State.frames_setFrames _ (State.cur_lt_of_frames hfr)
  refine ⟨(T.setVm vm').setFrames (.throwing q :: below), ?_, .threw q, X'.here.running, hend, Or.inr ⟨q, rfl, E, ce, locs, hx _ hT (X'.ends _).1.alike, hcell9, hv, hcl, (X'.ends _).1, (X'.ends _).2.mono hc hs, hf⟩⟩
  rw [X.pushThrowing_eq]
  exact st
/-- a thing of a world lies in the heap -/
theorem vx_lt {D : va_G} {cl : List vw_C} {ws : va_W} {H1 : Heap} (h : va_P D cl ws H1) {k : Nat} {q : Nat × va_E} (hk : ws[k]? = some q) : q.1 < H1.size := (h k q hk).lt
end VXS
/-! ===== END ===== -/
/-! ===== BEGIN methods with a table of their own: called by a name, returning or throwing ===== -/
section VXH
/-! vx_backW, vx_callVX, vx_callSX, vx_callVW, vx_runVW, vx_runVX, vx_runSX, vx_ofWH follow the same proofs as their sisters above (Free/Laws.lean, Shelf42/LK1.lean); vx_outP calls Shelf42/NT130.lean (outThrough). -/
section
variable {l : Launch} {R : Room} {p : Program} {e : Env} {below : List Frame} {s : State} {sargs : Array Value} {y : MethodName} {len W9 : Nat}
theorem vx_backW {ws : List Cond} {rm : Room} {Pc : Array Value → State → Prop} {Qc : Array Value → State → Outcome → State → Prop} {XC : String → State → State → Prop} {mc ms : Nat} {free : Addr → Prop} {bytes : ByteArray} {maxL : Nat} {ret : Option FieldType} {hh : List (Nat × Nat × Nat × Nat)}
    (hM : vx_Met l y ws rm Pc Qc XC mc ms free) (hblind : FrameBlind Pc) (hrc : rm.cells = mc) (hrs : rm.slots = ms)
    (hframes : rm.frames + 1 ≤ R.frames) (hlocals : W9 + (maxL + 11) + rm.locals ≤ R.locals)
    (hws : ∀ w ∈ ws, ∀ a' U, s.WarmedH U.vm → w.before a' U = true) (hcode : Cond.codeWith y bytes maxL ret hh ∈ ws) (hinit : ∀ a' U, s.WarmedH U.vm → (Cond.initialized y.cls).before a' U = true) :
    vx_Back l R p e below s sargs y len W9 (PreOf R mc ms Pc) (PostOf Qc mc ms free) (vx_Post XC mc ms free) := by
  intro m meth c A g ig mk a X hg hsize hdg hW hn hp
  have h1 : (headSpec ws rm).pre.before a A.U = true := atoms_intro fun w hw => hws w hw _ _ X.warmed
  have h2 : (Cond.codeWith y bytes maxL ret hh).before a A.U = true := hws _ hcode _ _ X.warmed
  have h3 : (Cond.initialized y.cls).before a A.U = true := hinit _ _ X.warmed
  have h4 : A.cells + (headSpec ws rm).room.cells ≤ R.cells := by rw [show (headSpec ws rm).room.cells = mc from hrc]; exact hp.1
  have h5 : A.slots + (headSpec ws rm).room.slots ≤ R.slots := by rw [show (headSpec ws rm).room.slots = ms from hrs]; exact hp.2.1
  have hPc : Pc a (A.U.calling g mk a) := hblind _ _ _ _ hp.2.2
  obtain ⟨U, Ls, c0, s0⟩ := A
  dsimp only [Pt.U, Pt.locs, Pt.cells, Pt.slots] at h1 h2 h3 h4 h5 X hn hPc ⊢
  obtain ⟨m9, methY, cY, hn9, hmY, hcY, -, hlY, -⟩ := Cond.codeWith_spec h2
  cases Option.some.inj (hn9.symm.trans hn)
  obtain ⟨kY, hkY, -⟩ := className_of_methodNamed hn
  have hinitY : kY.init = .initialized := Cond.initialized_spec (findClass_of_methodNamed hn) hkY h3
  have h : At U g.method c below := by rw [hg]; exact X.here
  have hlocals9 : W9 + (maxL + 11) + (headSpec ws rm).room.locals ≤ R.locals := hlocals
  have happ : (headSpec ws rm).appliesLoose y e.platform (U.calling g mk a) = true :=
    Spec.appliesLoose_calling (g := g) h hdg hn hkY hinitY
      (X.room_calling (g := g) (R' := (headSpec ws rm).room) hsize hmY hcY hframes (by rw [hlY]; omega) h4 h5) h1
  obtain ⟨mid, hmid⟩ := h.above
  have hfr : (U.setTop g).frames = (.java g :: mid) ++ below := by rw [State.frames_setTop' g h.top, hmid]; rfl
  obtain ⟨o, s₂, hsteps, -, hend, hq⟩ := Steps.callFree hM p X.admits X.cas X.clock (acts := []) hfr happ hPc trivial
  have hq' : vx_Q Qc XC mc ms free a (U.calling g mk a) o s₂ := hq
  rw [State.frames_setTop' g h.top] at hend
  obtain ⟨g₀, hg0⟩ := Option.isSome_iff_exists.mp h.top
  obtain ⟨r, hr⟩ := State.topJava?_eq_some.mp hg0
  have hr' : (({ U with heap := s₂.heap, slotsUsed := s₂.slotsUsed } : State).setVm s₂.vm).frames = .java g₀ :: r := hr
  rcases hq' with ⟨hqc, L, hfe, hL⟩ | ⟨q, rfl, E, ce, L, hx, hce, hcv, hcl, hW₂, hsm, hL⟩
  · obtain ⟨⟨v, rfl⟩, hW₂, e2, q2, q3, q4, q5, q6⟩ := id hfe
    have e3 : s₂ = ({ (U.calling g mk a).setFrames s₂.frames with heap := s₂.heap, slotsUsed := s₂.slotsUsed } : State).setVm s₂.vm := by
      have : s₂ = ({ s₂ with vm := (U.calling g mk a).vm } : State).setVm s₂.vm := rfl
      rw [e2] at this
      exact this
    obtain ⟨c₂, i₂, len₂, hc₂, hd₂, hf₂⟩ := hend
    have hW' : U.WarmedH s₂.vm := hW₂
    have hcc : c₂ = c := by
      have h1 : s₂.code? g.method = U.code? g.method := by
        rw [State.code?_eq, State.code?_eq, hW'.alike.method?]
      exact Option.some.inj (hc₂.symm.trans (h1.trans h.code))
    subst hcc
    have hlen : len₂ = len := by rw [hdg] at hd₂; cases hd₂; rfl
    subst hlen
    have hs₂ : s₂ = (({ U with heap := s₂.heap, slotsUsed := s₂.slotsUsed } : State).setVm s₂.vm).setTop { g with pc := g.pc + len₂, stack := v.toList ++ g.stack } := by
      refine e3.trans ?_
      rw [hf₂, State.calling_eq h.top, State.setFrames_setFrames, State.setTop_of_frames _ hr', hr]
      rfl
    have hsame : U.sameButNew ({ U with heap := s₂.heap, slotsUsed := s₂.slotsUsed } : State) L mc ms := by
      refine ⟨?_, q2, q3, q4, q5, q6⟩
      obtain ⟨t, ht, -⟩ := State.frames_cons hr
      show ({ U with heap := s₂.heap, slotsUsed := s₂.slotsUsed } : State) = { U.setFrames U.frames with heap := s₂.heap, slotsUsed := s₂.slotsUsed }
      rw [State.setFrames_self ht]
    subst hg
    refine Or.inl ⟨v, ⟨(({ U with heap := s₂.heap, slotsUsed := s₂.slotsUsed } : State).setVm s₂.vm), Ls ++ L, c0 + mc, s0 + ms⟩,
      ⟨X.admits, X.cas, X.clock, X.frames, X.room, X.hears, X.method, X.code, (X.here.setHeapUsed s₂.heap s₂.slotsUsed).setVm hW'.alike, X.tail, State.WarmedH.trans X.warmed hW', X.limits, X.bytes, X.same.trans (hsame.setVm s.vm)⟩,
      ⟨g, mk, s₂, L, rfl, rfl, hqc, rfl, hL, rfl, rfl⟩, ?_⟩
    show Steps p.tables e below _ ((({ U with heap := s₂.heap, slotsUsed := s₂.slotsUsed } : State).setVm s₂.vm).setTop { g with pc := g.pc + len₂, stack := v.toList ++ g.stack })
    rw [← hs₂]
    exact hsteps
  · obtain ⟨e2, q2, q3, q4, q5, q6⟩ := id hsm
    have e3 : s₂ = ({ (U.calling g mk a).setFrames s₂.frames with heap := s₂.heap, slotsUsed := s₂.slotsUsed } : State).setVm s₂.vm := by
      have : s₂ = ({ s₂ with vm := (U.calling g mk a).vm } : State).setVm s₂.vm := rfl
      rw [e2] at this
      exact this
    have hf₂ : s₂.frames = .throwing q :: .java g :: U.frames.tail := hend
    have hW' : U.WarmedH s₂.vm := hW₂
    have hs₂ : s₂ = ((({ U with heap := s₂.heap, slotsUsed := s₂.slotsUsed } : State).setVm s₂.vm).setTop g).pushFrame (.throwing q) := by
      refine e3.trans ?_
      rw [hf₂, State.calling_eq h.top, State.setFrames_setFrames, State.pushFrame, State.frames_setTop _ hr', State.setTop_of_frames _ hr', State.setFrames_setFrames, hr]
      rfl
    have hsame : U.sameButNew ({ U with heap := s₂.heap, slotsUsed := s₂.slotsUsed } : State) L mc ms := by
      refine ⟨?_, q2, q3, q4, q5, q6⟩
      obtain ⟨t, ht, -⟩ := State.frames_cons hr
      show ({ U with heap := s₂.heap, slotsUsed := s₂.slotsUsed } : State) = { U.setFrames U.frames with heap := s₂.heap, slotsUsed := s₂.slotsUsed }
      rw [State.setFrames_self ht]
    subst hg
    refine Or.inr ⟨q, ⟨(({ U with heap := s₂.heap, slotsUsed := s₂.slotsUsed } : State).setVm s₂.vm), Ls ++ L, c0 + mc, s0 + ms⟩,
      ⟨X.admits, X.cas, X.clock, X.frames, X.room, X.hears, X.method, X.code, (X.here.setHeapUsed s₂.heap s₂.slotsUsed).setVm hW'.alike, X.tail, State.WarmedH.trans X.warmed hW', X.limits, X.bytes, X.same.trans (hsame.setVm s.vm)⟩,
      ⟨g, mk, s₂, L, E, ce, rfl, rfl, hx, hce, hcv, hcl, rfl, hL, rfl, rfl⟩, ?_⟩
    show Steps p.tables e below _ (((({ U with heap := s₂.heap, slotsUsed := s₂.slotsUsed } : State).setVm s₂.vm).setTop g).pushFrame (.throwing q))
    rw [← hs₂]
    exact hsteps
end
variable {p : Program} {l : Launch} {e : Env} {R : Room} {s : State} {m : MethodId} {args : Array Value} {below : List Frame} {meth : Method} {c : Code} {T : State} {H : Heap} {locs : List Loc} {cells slots : Nat}
theorem vx_callVX (X : Stand p l e R s m args below meth c T locs cells slots) (hexec : p.tables.exec = Jvm.exec) {own C : String} {index : Nat} {y : MethodName} {bytes : ByteArray} {maxL : Nat} {ret : Option FieldType} {hh : List (Nat × Nat × Nat × Nat)}
    (hown : s.vm.findClass own = some m.cls) (hlink : (Cond.methodLink own index y).before args s = true) (hinst : (Cond.instanceMethod y).before args s = true) (hsel : (Cond.selects C y y).before args s = true)
    (hcode : (Cond.codeWith y bytes maxL ret hh).before args s = true) (hy : y.cls ≠ "java/lang/invoke/MethodHandle" ∧ y.cls ≠ "java/lang/invoke/VarHandle")
    {W9 : Nat} {Pre : Pt → Array Value → Prop} {Post : Pt → Array Value → Option Value → Pt → Prop} {PostX : Pt → Array Value → Addr → Pt → Prop} (hK : vx_Back l R p e below s args y 3 W9 Pre Post PostX)
    {b : Addr} {cellB : Cell} (hcell : T.heap[b]? = some cellB) (hobj : cellB.vm.isStatics = false) (hcls : s.vm.findClass C = some cellB.cls)
    {g : JFrame} (hg : g.method = m) (hsize : g.locals.size = c.maxLocals) {argsL rest : List Value} (hlen : ∀ sig, parseMethodDescriptor y.desc = some sig → argsL.length = sig.parameters.length)
    (hstack : g.stack = argsL.reverse ++ .ref b :: rest) (hW : 2 * g.monitorRoom + (rest.map fun v => v.category).sum ≤ W9) (hdg : decode c.code g.pc = .ok (.invokevirtual index, 3))
    (hpre : ∀ vm₁, s.WarmedH vm₁ → Pre ⟨T.setVm vm₁, locs, cells, slots⟩ (Value.ref b :: argsL).toArray) :
    (∃ (v : Option Value) (vm₁ : Vm) (B : Pt), s.WarmedH vm₁ ∧ Stand p l e R s m args below meth c B.U B.locs B.cells B.slots ∧ Post ⟨T.setVm vm₁, locs, cells, slots⟩ (Value.ref b :: argsL).toArray v B ∧
      ∀ target, Steps p.tables e below (B.U.setTop { g with pc := g.pc + 3, stack := v.toList ++ rest }) target → Steps p.tables e below (T.setTop g) target) ∨
    (∃ (q : Addr) (vm₁ : Vm) (B : Pt), s.WarmedH vm₁ ∧ Stand p l e R s m args below meth c B.U B.locs B.cells B.slots ∧ PostX ⟨T.setVm vm₁, locs, cells, slots⟩ (Value.ref b :: argsL).toArray q B ∧
      Steps p.tables e below (T.setTop g) ((B.U.setTop { g with stack := rest }).pushFrame (.throwing q))) := by
  obtain ⟨mk, methM, hnamed, hmethM, hstM, habM⟩ := Cond.instanceMethod_spec hinst
  obtain ⟨m8, methM', cM, hn8, hmethM', -, -, -, -, -, -, hsigM⟩ := Cond.codeWith_spec hcode
  cases Option.some.inj (hn8.symm.trans hnamed)
  cases hmethM.symm.trans hmethM'
  obtain ⟨c2, r2, m2, q1, q2, q3, q4, kP, hkP, hkPi⟩ := Cond.selects_spec hsel
  cases hcls.symm.trans q1
  cases (State.methodFound?_of_named hnamed hy).symm.trans q2
  cases hnamed.symm.trans q3
  have hselP : selectMethod e.platform s.vm cellB.cls mk = .method mk := by rw [Launch.admits_selectMethod X.admits]; exact q4
  obtain ⟨vm₁, X₁, hstep₁⟩ := X.invokevirtual hexec hown hlink hnamed hmethM hstM hkP hkPi hy (a := b) (cell := cellB) hcell
    (fun z h => by rw [h] at hobj; cases hobj) hselP hmethM habM hkP hkPi (g := g) hg (argsL := argsL) (rest := rest) (hlen _ hsigM) hstack hdg
  rcases hK m meth c ⟨T.setVm vm₁, locs, cells, slots⟩ { g with stack := rest } (.invokevirtual index) mk (Value.ref b :: argsL).toArray X₁ hg hsize hdg hW (X₁.named hnamed) (hpre vm₁ X₁.warmed) with ⟨v, B, X', hpost, hsteps⟩ | ⟨q, B, X', hpost, hsteps⟩
  · exact Or.inl ⟨v, vm₁, B, X₁.warmed, X', hpost, fun target h => hstep₁ _ fun acts => by rw [doInvoke_state]; exact hsteps.trans h⟩
  · exact Or.inr ⟨q, vm₁, B, X₁.warmed, X', hpost, hstep₁ _ fun acts => by rw [doInvoke_state]; exact hsteps⟩
theorem vx_callSX (X : Stand p l e R s m args below meth c T locs cells slots) (hexec : p.tables.exec = Jvm.exec) {own : String} {index : Nat} {y : MethodName} {bytes : ByteArray} {maxL : Nat} {ret : Option FieldType} {hh : List (Nat × Nat × Nat × Nat)}
    (hown : s.vm.findClass own = some m.cls) (hlink : (Cond.methodLink own index y).before args s = true) (hstat : (Cond.static y).before args s = true) (hinit : (Cond.initialized y.cls).before args s = true)
    (hcode : (Cond.codeWith y bytes maxL ret hh).before args s = true) (hy : y.cls ≠ "java/lang/invoke/MethodHandle" ∧ y.cls ≠ "java/lang/invoke/VarHandle")
    {W9 : Nat} {Pre : Pt → Array Value → Prop} {Post : Pt → Array Value → Option Value → Pt → Prop} {PostX : Pt → Array Value → Addr → Pt → Prop} (hK : vx_Back l R p e below s args y 3 W9 Pre Post PostX)
    {g : JFrame} (hg : g.method = m) (hsize : g.locals.size = c.maxLocals) {argsL rest : List Value} (hlen : ∀ sig, parseMethodDescriptor y.desc = some sig → argsL.length = sig.parameters.length)
    (hstack : g.stack = argsL.reverse ++ rest) (hW : 2 * g.monitorRoom + (rest.map fun v => v.category).sum ≤ W9) (hdg : decode c.code g.pc = .ok (.invokestatic index, 3))
    (hpre : ∀ vm₁, s.WarmedH vm₁ → Pre ⟨T.setVm vm₁, locs, cells, slots⟩ argsL.toArray) :
    (∃ (v : Option Value) (vm₁ : Vm) (B : Pt), s.WarmedH vm₁ ∧ Stand p l e R s m args below meth c B.U B.locs B.cells B.slots ∧ Post ⟨T.setVm vm₁, locs, cells, slots⟩ argsL.toArray v B ∧
      ∀ target, Steps p.tables e below (B.U.setTop { g with pc := g.pc + 3, stack := v.toList ++ rest }) target → Steps p.tables e below (T.setTop g) target) ∨
    (∃ (q : Addr) (vm₁ : Vm) (B : Pt), s.WarmedH vm₁ ∧ Stand p l e R s m args below meth c B.U B.locs B.cells B.slots ∧ PostX ⟨T.setVm vm₁, locs, cells, slots⟩ argsL.toArray q B ∧
      Steps p.tables e below (T.setTop g) ((B.U.setTop { g with stack := rest }).pushFrame (.throwing q))) := by
  obtain ⟨mk, methM, cM, hnamed, hmethM, -, -, -, -, -, -, hsigM⟩ := Cond.codeWith_spec hcode
  have hstatic : methM.isStatic = true := Cond.static_spec hnamed hmethM hstat
  obtain ⟨kP, hkP, -⟩ := className_of_methodNamed hnamed
  have hinitP : kP.init = .initialized := Cond.initialized_spec (findClass_of_methodNamed hnamed) hkP hinit
  obtain ⟨vm₁, X₁, hstep₁⟩ := X.invokestatic hexec hown hlink hnamed hmethM hstatic hkP hinitP hy (g := g) hg (argsL := argsL) (rest := rest) (hlen _ hsigM) hstack hdg
  rcases hK m meth c ⟨T.setVm vm₁, locs, cells, slots⟩ { g with stack := rest } (.invokestatic index) mk argsL.toArray X₁ hg hsize hdg hW (X₁.named hnamed) (hpre vm₁ X₁.warmed) with ⟨v, B, X', hpost, hsteps⟩ | ⟨q, B, X', hpost, hsteps⟩
  · exact Or.inl ⟨v, vm₁, B, X₁.warmed, X', hpost, fun target h => hstep₁ _ fun acts => by rw [doInvoke_state]; exact hsteps.trans h⟩
  · exact Or.inr ⟨q, vm₁, B, X₁.warmed, X', hpost, hstep₁ _ fun acts => by rw [doInvoke_state]; exact hsteps⟩
theorem vx_callVW (X : Stand p l e R s m args below meth c T locs cells slots) (hexec : p.tables.exec = Jvm.exec) {own C : String} {index : Nat} {y : MethodName} {bytes : ByteArray} {maxL : Nat} {ret : Option FieldType} {hh : List (Nat × Nat × Nat × Nat)}
    (hown : s.vm.findClass own = some m.cls) (hlink : (Cond.methodLink own index y).before args s = true) (hinst : (Cond.instanceMethod y).before args s = true) (hsel : (Cond.selects C y y).before args s = true)
    (hcode : (Cond.codeWith y bytes maxL ret hh).before args s = true) (hy : y.cls ≠ "java/lang/invoke/MethodHandle" ∧ y.cls ≠ "java/lang/invoke/VarHandle")
    {W9 : Nat} {Pre : Pt → Array Value → Prop} {Post : Pt → Array Value → Option Value → Pt → Prop} (hK : Back l R p e below s args y 3 W9 Pre Post)
    {b : Addr} {cellB : Cell} (hcell : T.heap[b]? = some cellB) (hobj : cellB.vm.isStatics = false) (hcls : s.vm.findClass C = some cellB.cls)
    {g : JFrame} (hg : g.method = m) (hsize : g.locals.size = c.maxLocals) {argsL rest : List Value} (hlen : ∀ sig, parseMethodDescriptor y.desc = some sig → argsL.length = sig.parameters.length)
    (hstack : g.stack = argsL.reverse ++ .ref b :: rest) (hW : 2 * g.monitorRoom + (rest.map fun v => v.category).sum ≤ W9) (hdg : decode c.code g.pc = .ok (.invokevirtual index, 3))
    (hpre : ∀ vm₁, s.WarmedH vm₁ → Pre ⟨T.setVm vm₁, locs, cells, slots⟩ (Value.ref b :: argsL).toArray) :
    ∃ (v : Option Value) (vm₁ : Vm) (B : Pt), s.WarmedH vm₁ ∧ Stand p l e R s m args below meth c B.U B.locs B.cells B.slots ∧ Post ⟨T.setVm vm₁, locs, cells, slots⟩ (Value.ref b :: argsL).toArray v B ∧
      ∀ target, Steps p.tables e below (B.U.setTop { g with pc := g.pc + 3, stack := v.toList ++ rest }) target → Steps p.tables e below (T.setTop g) target := by
  obtain ⟨mk, methM, hnamed, hmethM, hstM, habM⟩ := Cond.instanceMethod_spec hinst
  obtain ⟨m8, methM', cM, hn8, hmethM', -, -, -, -, -, -, hsigM⟩ := Cond.codeWith_spec hcode
  cases Option.some.inj (hn8.symm.trans hnamed)
  cases hmethM.symm.trans hmethM'
  obtain ⟨c2, r2, m2, q1, q2, q3, q4, kP, hkP, hkPi⟩ := Cond.selects_spec hsel
  cases hcls.symm.trans q1
  cases (State.methodFound?_of_named hnamed hy).symm.trans q2
  cases hnamed.symm.trans q3
  have hselP : selectMethod e.platform s.vm cellB.cls mk = .method mk := by rw [Launch.admits_selectMethod X.admits]; exact q4
  obtain ⟨vm₁, X₁, hstep₁⟩ := X.invokevirtual hexec hown hlink hnamed hmethM hstM hkP hkPi hy (a := b) (cell := cellB) hcell
    (fun z h => by rw [h] at hobj; cases hobj) hselP hmethM habM hkP hkPi (g := g) hg (argsL := argsL) (rest := rest) (hlen _ hsigM) hstack hdg
  obtain ⟨v, B, X', hpost, hsteps⟩ := hK m meth c ⟨T.setVm vm₁, locs, cells, slots⟩ { g with stack := rest } (.invokevirtual index) mk (Value.ref b :: argsL).toArray X₁ hg hsize hdg hW (X₁.named hnamed) (hpre vm₁ X₁.warmed)
  exact ⟨v, vm₁, B, X₁.warmed, X', hpost, fun target h => hstep₁ _ fun acts => by rw [doInvoke_state]; exact hsteps.trans h⟩
abbrev vx_CVW (R : Room) (s : State) (args : Array Value) (own C : String) (index : Nat) (y : MethodName) (bytes : ByteArray) (maxL : Nat) (ret : Option FieldType) (hh : List (Nat × Nat × Nat × Nat)) (ws : List Cond) (rm : Room) (mc ms n : Nat) : Prop :=
  (rm.cells = mc ∧ rm.slots = ms ∧ rm.frames + 1 ≤ R.frames ∧ 8 + (maxL + 11) + rm.locals ≤ R.locals ∧ (∀ w ∈ ws, ∀ (a' : Array Value) (U : State), s.WarmedH U.vm → w.before a' U = true) ∧ Cond.codeWith y bytes maxL ret hh ∈ ws) ∧
  (Cond.codeWith y bytes maxL ret hh).before args s = true ∧ (Cond.initialized y.cls).before args s = true ∧ (y.cls ≠ "java/lang/invoke/MethodHandle" ∧ y.cls ≠ "java/lang/invoke/VarHandle") ∧
  (∀ sig, parseMethodDescriptor y.desc = some sig → n = sig.parameters.length) ∧ (Cond.methodLink own index y).before args s = true ∧ (Cond.instanceMethod y).before args s = true ∧ (Cond.selects C y y).before args s = true
theorem vx_cwVW {own C : String} {index maxL mc ms : Nat} {y : MethodName} {bytes : ByteArray} {ret : Option FieldType} {hh : List (Nat × Nat × Nat × Nat)} {Ts ws ws' : List Cond} {rm : Room} (n : Nat) (ht : ∀ w ∈ Ts, w.before args s = true) (hT : GoodIn Ts (wsV own index C y ws)) (hw : ws = Cond.codeWith y bytes maxL ret hh :: ws') (hrc : rm.cells = mc) (hrs : rm.slots = ms)
    (hd : y.cls = C ∧ y.cls ≠ "java/lang/invoke/MethodHandle" ∧ y.cls ≠ "java/lang/invoke/VarHandle" ∧ (parseMethodDescriptor y.desc).map (fun d => d.parameters.length) = some n) (hR : rm.frames + 1 ≤ R.frames ∧ 8 + (maxL + 11) + rm.locals ≤ R.locals) :
    vx_CVW R s args own C index y bytes maxL ret hh ws rm mc ms n := by
  obtain ⟨hC, hd⟩ := hd
  subst hC
  have ok : ∀ w ∈ wsV own index y.cls y ws, w.before args s = true := fun w h => ht w (hT w h).1
  have hG : GoodIn Ts ws := fun w h => hT w (by unfold wsV; exact List.mem_append_right _ h)
  have hc : Cond.codeWith y bytes maxL ret hh ∈ ws := by rw [hw]; exact List.mem_cons_self
  refine ⟨⟨hrc, hrs, hR.1, hR.2, pay_in ht hG, hc⟩, ht _ (hG _ hc).1, ok _ (by simp [wsV]), ⟨hd.1, hd.2.1⟩, fun sig h => ?_, ok _ (by simp [wsV]), ok _ (by simp [wsV]), ok _ (by simp [wsV])⟩
  have h2 := hd.2.2
  rw [h] at h2
  exact (Option.some.inj h2).symm
theorem vx_runVW {y : MethodName} {bytes cc : ByteArray} {maxL nL mc ms n index : Nat} {ret : Option FieldType} {hh : List (Nat × Nat × Nat × Nat)} {ws : List Cond} {rm : Room} {Pc : Array Value → State → Prop} {Qc : Array Value → State → Outcome → State → Prop} {free : Addr → Prop} {Ts : List Cond} {own C : String} {b : Addr} {As rest : List Value} {g : JFrame}
    (S : CallFix p m c cc nL s args Ts own) (hM : Met l y ws rm Pc Qc mc ms free) (cw : vx_CVW R s args own C index y bytes maxL ret hh ws rm mc ms n) (hp : PreV s H C b Pc As)
    (hg : g.method = m) (hn : As.length = n) (hsize : g.locals.size = nL) (hstack : g.stack = As.reverse ++ .ref b :: rest) (hW : 2 * g.monitorRoom + (rest.map fun v => v.category).sum ≤ 8) (hdg : decode cc g.pc = .ok (.invokevirtual index, 3)) (hf : cells + mc ≤ R.cells ∧ slots + ms ≤ R.slots) :
    va_Run p l e R s m args below meth c H locs cells slots mc ms g rest (Qc (Value.ref b :: As).toArray) free := by
  obtain ⟨⟨hrc, hrs, hfr, hlo, hws, hcw⟩, hcode, hini, hy, hlen, hl, hin, hse⟩ := cw
  have hK : Back l R p e below s args y 3 8 (PreOf R mc ms Pc) (PostOf Qc mc ms free) := va_backW (hh := hh) (bytes := bytes) (maxL := maxL) (ret := ret) hM hp.1 hrc hrs hfr hlo hws hcw (fun a' U hW => word_at hW (Or.inl (by first | rfl | simp [Cond.onTables, Cond.keeps, Cond.steady])) hini)
  obtain ⟨hx, hb, hml, ho, -⟩ := S
  obtain ⟨-, ⟨cellB, hcB, hoB, hclB⟩, hPc⟩ := hp
  intro T hT X
  obtain ⟨v, vm₁, ⟨U', l2, c2, s2⟩, hW₁, X', ⟨g', mk, t, L, e1, e2, hq, h1, hL, h2, h3⟩, st⟩ := vx_callVW X hx (C := C) (hh := hh) (bytes := bytes) (maxL := maxL) (ret := ret) ho hl hin hse hcode hy hK (by rw [hT]; exact hcB) hoB hclB hg (hsize.trans hml.symm) (argsL := As) (rest := rest) (fun sig h => hn.trans (hlen sig h)) hstack hW (by rw [hb]; exact hdg)
    (fun vm₁ hW₁ => ⟨hf.1, hf.2, hPc (T.setVm vm₁) hT hW₁⟩)
  dsimp only [Pt.U, Pt.locs, Pt.cells, Pt.slots] at X' e1 e2 h1 h2 h3 st
  subst h1; subst h2; subst h3
  exact ⟨v, (T.setVm vm₁).calling g' mk (Value.ref b :: As).toArray, t, U', L, hT, X', hL, e1, e2, hq, st⟩
section
variable {y : MethodName} {bytes cc : ByteArray} {maxL nL mc ms n index : Nat} {ret : Option FieldType} {ws : List Cond} {rm : Room} {Pc : Array Value → State → Prop} {Qc : Array Value → State → Outcome → State → Prop} {XC : String → State → State → Prop} {free : Addr → Prop} {Ts : List Cond} {own C : String} {b : Addr} {As rest : List Value} {g : JFrame}
theorem vx_runVX {hh : List (Nat × Nat × Nat × Nat)} (S : CallFix p m c cc nL s args Ts own) (hM : vx_Met l y ws rm Pc Qc XC mc ms free) (cw : vx_CVW R s args own C index y bytes maxL ret hh ws rm mc ms n) (hp : PreV s H C b Pc As)
    (hg : g.method = m) (hn : As.length = n) (hsize : g.locals.size = nL) (hstack : g.stack = As.reverse ++ .ref b :: rest) (hW : 2 * g.monitorRoom + (rest.map fun v => v.category).sum ≤ 8) (hdg : decode cc g.pc = .ok (.invokevirtual index, 3)) (hf : cells + mc ≤ R.cells ∧ slots + ms ≤ R.slots) :
    vx_Run p l e R s m args below meth c H locs cells slots mc ms g rest (Qc (Value.ref b :: As).toArray) XC free := by
  obtain ⟨⟨hrc, hrs, hfr, hlo, hws, hcw⟩, hcode, hini, hy, hlen, hl, hin, hse⟩ := cw
  have hK : vx_Back l R p e below s args y 3 8 (PreOf R mc ms Pc) (PostOf Qc mc ms free) (vx_Post XC mc ms free) := vx_backW (hh := hh) (bytes := bytes) (maxL := maxL) (ret := ret) hM hp.1 hrc hrs hfr hlo hws hcw (fun a' U hW => word_at hW (Or.inl (by first | rfl | simp [Cond.onTables, Cond.keeps, Cond.steady])) hini)
  obtain ⟨hx, hb, hml, ho, -⟩ := S
  obtain ⟨-, ⟨cellB, hcB, hoB, hclB⟩, hPc⟩ := hp
  intro T hT X
  rcases vx_callVX X hx (C := C) (hh := hh) (bytes := bytes) (maxL := maxL) (ret := ret) ho hl hin hse hcode hy hK (by rw [hT]; exact hcB) hoB hclB hg (hsize.trans hml.symm) (argsL := As) (rest := rest) (fun sig h => hn.trans (hlen sig h)) hstack hW (by rw [hb]; exact hdg)
    (fun vm₁ hW₁ => ⟨hf.1, hf.2, hPc (T.setVm vm₁) hT hW₁⟩) with ⟨v, vm₁, ⟨U', l2, c2, s2⟩, hW₁, X', ⟨g', mk, t, L, e1, e2, hq, h1, hL, h2, h3⟩, st⟩ | ⟨q, vm₁, ⟨U', l2, c2, s2⟩, hW₁, X', ⟨g', mk, t, L, E, ce, e1, e2, hq, hce, hcv, hcl, h1, hL, h2, h3⟩, st⟩
  · dsimp only [Pt.U, Pt.locs, Pt.cells, Pt.slots] at X' e1 e2 h1 h2 h3 st
    subst h1; subst h2; subst h3
    exact Or.inl ⟨v, (T.setVm vm₁).calling g' mk (Value.ref b :: As).toArray, t, U', L, hT, X', hL, e1, e2, hq, st⟩
  · dsimp only [Pt.U, Pt.locs, Pt.cells, Pt.slots] at X' e1 e2 h1 h2 h3 st hcl
    subst h1; subst h2; subst h3
    exact Or.inr ⟨q, (T.setVm vm₁).calling g' mk (Value.ref b :: As).toArray, t, U', L, E, ce, hT, X', hL, e1, e2, hq, hce, hcv, vx_cls hW₁ hcl, st⟩
theorem vx_runSX {hh : List (Nat × Nat × Nat × Nat)} (S : CallFix p m c cc nL s args Ts own) (hM : vx_Met l y ws rm Pc Qc XC mc ms free) (cw : vx_CSW R s args own index y bytes maxL ret hh ws rm mc ms n) (hp : PreS s H Pc As)
    (hg : g.method = m) (hn : As.length = n) (hsize : g.locals.size = nL) (hstack : g.stack = As.reverse ++ rest) (hW : 2 * g.monitorRoom + (rest.map fun v => v.category).sum ≤ 8) (hdg : decode cc g.pc = .ok (.invokestatic index, 3)) (hf : cells + mc ≤ R.cells ∧ slots + ms ≤ R.slots) :
    vx_Run p l e R s m args below meth c H locs cells slots mc ms g rest (Qc As.toArray) XC free := by
  obtain ⟨⟨hrc, hrs, hfr, hlo, hws, hcw⟩, hcode, hini, hy, hlen, hl, hstt⟩ := cw
  have hK : vx_Back l R p e below s args y 3 8 (PreOf R mc ms Pc) (PostOf Qc mc ms free) (vx_Post XC mc ms free) := vx_backW (hh := hh) (bytes := bytes) (maxL := maxL) (ret := ret) hM hp.1 hrc hrs hfr hlo hws hcw (fun a' U hW => word_at hW (Or.inl (by first | rfl | simp [Cond.onTables, Cond.keeps, Cond.steady])) hini)
  obtain ⟨hx, hb, hml, ho, -⟩ := S
  intro T hT X
  rcases vx_callSX X hx (hh := hh) (bytes := bytes) (maxL := maxL) (ret := ret) ho hl hstt hini hcode hy hK hg (hsize.trans hml.symm) (argsL := As) (rest := rest) (fun sig h => hn.trans (hlen sig h)) hstack hW (by rw [hb]; exact hdg)
    (fun vm₁ hW₁ => ⟨hf.1, hf.2, hp.2 (T.setVm vm₁) hT hW₁⟩) with ⟨v, vm₁, ⟨U', l2, c2, s2⟩, hW₁, X', ⟨g', mk, t, L, e1, e2, hq, h1, hL, h2, h3⟩, st⟩ | ⟨q, vm₁, ⟨U', l2, c2, s2⟩, hW₁, X', ⟨g', mk, t, L, E, ce, e1, e2, hq, hce, hcv, hcl, h1, hL, h2, h3⟩, st⟩
  · dsimp only [Pt.U, Pt.locs, Pt.cells, Pt.slots] at X' e1 e2 h1 h2 h3 st
    subst h1; subst h2; subst h3
    exact Or.inl ⟨v, (T.setVm vm₁).calling g' mk As.toArray, t, U', L, hT, X', hL, e1, e2, hq, st⟩
  · dsimp only [Pt.U, Pt.locs, Pt.cells, Pt.slots] at X' e1 e2 h1 h2 h3 st hcl
    subst h1; subst h2; subst h3
    exact Or.inr ⟨q, (T.setVm vm₁).calling g' mk As.toArray, t, U', L, E, ce, hT, X', hL, e1, e2, hq, hce, hcv, vx_cls hW₁ hcl, st⟩
end
end VXH
theorem vx_ofWH {l : Launch} {y : MethodName} {ws ws' : List Cond} {rm : Room} {Pc : Array Value → State → Prop} {Qc : Array Value → State → Outcome → State → Prop} {XC : String → State → State → Prop} {mc ms : Nat} {free : Addr → Prop} {cc : ByteArray} {maxL : Nat} {ret : Option FieldType} {hh : List (Nat × Nat × Nat × Nat)}
    (hy : plainName y.cls = true) (hw : ws = Cond.codeWith y cc maxL ret hh :: ws')
    (body : ∀ p e s m args below meth c s₁, BodyLoose p l y (headSpec ws rm) cc maxL ret e s m args below meth c s₁ → c.maxLocals = maxL → Pc args s →
      W p l e (headSpec ws rm).room s m args below meth c s.heap [] 0 0 (vx_MQ below Qc XC args s mc ms free) (entryFrame m args maxL)) : vx_Met l y ws rm Pc Qc XC mc ms free := by
  refine MetFree.of_bodyS (code := cc) (maxLocals := maxL) (ret := ret) hy ?_ ?_
  · intro args s m h hn
    obtain ⟨m9, meth, c, hn9, h1, h2, h3, h4, -, h5, h6, -⟩ := Cond.codeWith_spec (atoms_spec (ws := ws) h _ (by rw [hw]; exact List.mem_cons_self))
    cases hn.symm.trans hn9
    exact ⟨meth, c, h1, h2, h3, h4, h5, h6⟩
  · intro p e s m args below meth c s₁ B hml hP _
    have hh0 : s₁.heap = s.heap := by rw [B.state]; rfl
    obtain ⟨t, a1, o, b1, b2, b3⟩ := body p e s m args below meth c s₁ B hml hP s₁ hh0 (Stand.of_body B)
    exact ⟨t, o, a1, b1, b2, b3⟩
/-! ===== END ===== -/
end
section
def RX0 : String := "InterlockingBox$1"
def TX0 : u_T := fun k => match k with
  | _ => ("", "", "", false)
def tyX0 : Nat → FieldType := fun k => match k with
  | _ => .int
abbrev wsX00 : List Cond := u_ws RX0 TX0 0
theorem nmX0 : ∀ a, a < 0 → ∀ b, b < 0 → a ≠ b → (TX0 a).2.1 ≠ (TX0 b).2.1 := by decide +kernel
theorem tyX0_ok : ∀ k, k < 0 → parseFieldDescriptor (TX0 k).2.2.1 = some (tyX0 k) := by decide +kernel
def RX1 : String := "InterlockingBox$Command"
def TX1 : u_T := fun k => match k with
  | _ => ("", "", "", false)
def tyX1 : Nat → FieldType := fun k => match k with
  | _ => .int
abbrev wsX10 : List Cond := u_ws RX1 TX1 0
theorem nmX1 : ∀ a, a < 0 → ∀ b, b < 0 → a ≠ b → (TX1 a).2.1 ≠ (TX1 b).2.1 := by decide +kernel
theorem tyX1_ok : ∀ k, k < 0 → parseFieldDescriptor (TX1 k).2.2.1 = some (tyX1 k) := by decide +kernel
def RX2 : String := "InterlockingBox$History"
def TX2 : u_T := fun k => match k with
  | 0 => ("InterlockingBox$History", "states", "[LInterlockingBox$State;", true)
  | 1 => ("InterlockingBox$History", "place", "I", false)
  | _ => ("InterlockingBox$History", "count", "I", false)
def tyX2 : Nat → FieldType := fun k => match k with
  | 0 => .array (.object "InterlockingBox$State")
  | 1 => .int
  | _ => .int
abbrev wsX20 : List Cond := u_ws RX2 TX2 3
theorem nmX2 : ∀ a, a < 3 → ∀ b, b < 3 → a ≠ b → (TX2 a).2.1 ≠ (TX2 b).2.1 := by decide +kernel
theorem tyX2_ok : ∀ k, k < 3 → parseFieldDescriptor (TX2 k).2.2.1 = some (tyX2 k) := by decide +kernel
abbrev cX2_init : ByteArray := prog_4_method_1_code
def yX2_init : MethodName := ⟨RX2, "<init>", "()V"⟩
abbrev cX2_keep : ByteArray := prog_4_method_2_code
def yX2_keep : MethodName := ⟨RX2, "keep", "(LInterlockingBox$State;)V"⟩
abbrev cX2_putBack : ByteArray := prog_4_method_3_code
def yX2_putBack : MethodName := ⟨RX2, "putBack", "(LInterlockingBox$State;)V"⟩
abbrev cX2_commit : ByteArray := prog_4_method_4_code
def yX2_commit : MethodName := ⟨RX2, "commit", "()V"⟩
abbrev cX2_takeBack : ByteArray := prog_4_method_5_code
def yX2_takeBack : MethodName := ⟨RX2, "takeBack", "(LInterlockingBox$State;)Z"⟩
abbrev cX2_forget : ByteArray := prog_4_method_6_code
def yX2_forget : MethodName := ⟨RX2, "forget", "()V"⟩
def RX3 : String := "InterlockingBox$Invariants"
def TX3 : u_T := fun k => match k with
  | _ => ("", "", "", false)
def tyX3 : Nat → FieldType := fun k => match k with
  | _ => .int
abbrev wsX30 : List Cond := u_ws RX3 TX3 0
theorem nmX3 : ∀ a, a < 0 → ∀ b, b < 0 → a ≠ b → (TX3 a).2.1 ≠ (TX3 b).2.1 := by decide +kernel
theorem tyX3_ok : ∀ k, k < 0 → parseFieldDescriptor (TX3 k).2.2.1 = some (tyX3 k) := by decide +kernel
abbrev cX3_hold : ByteArray := prog_5_method_2_code
def yX3_hold : MethodName := ⟨RX3, "hold", "(LInterlockingBox$State;)Z"⟩
abbrev cX3_lineIsSound : ByteArray := prog_5_method_3_code
def yX3_lineIsSound : MethodName := ⟨RX3, "lineIsSound", "(LInterlockingBox$Line;)Z"⟩
abbrev cX3_trainsAreSound : ByteArray := prog_5_method_4_code
def yX3_trainsAreSound : MethodName := ⟨RX3, "trainsAreSound", "(LInterlockingBox$State;)Z"⟩
abbrev cX3_blocksAreHeldOnce : ByteArray := prog_5_method_5_code
def yX3_blocksAreHeldOnce : MethodName := ⟨RX3, "blocksAreHeldOnce", "(LInterlockingBox$State;)Z"⟩
abbrev cX3_routesAreSound : ByteArray := prog_5_method_6_code
def yX3_routesAreSound : MethodName := ⟨RX3, "routesAreSound", "(LInterlockingBox$State;)Z"⟩
abbrev cX3_blocksAhead : ByteArray := prog_5_method_7_code
def yX3_blocksAhead : MethodName := ⟨RX3, "blocksAhead", "(LInterlockingBox$Line;LInterlockingBox$Train;)I"⟩
abbrev cX3_queueIsSound : ByteArray := prog_5_method_8_code
def yX3_queueIsSound : MethodName := ⟨RX3, "queueIsSound", "(LInterlockingBox$State;)Z"⟩
def RX4 : String := "InterlockingBox$Line"
def TX4 : u_T := fun k => match k with
  | 0 => ("InterlockingBox$Line", "blocks", "I", false)
  | 1 => ("InterlockingBox$Line", "points", "I", false)
  | 2 => ("InterlockingBox$Line", "links", "I", false)
  | 3 => ("InterlockingBox$Line", "shut", "I", false)
  | 4 => ("InterlockingBox$Line", "stemsToRight", "I", false)
  | 5 => ("InterlockingBox$Line", "length", "[I", true)
  | 6 => ("InterlockingBox$Line", "left", "[I", true)
  | 7 => ("InterlockingBox$Line", "right", "[I", true)
  | 8 => ("InterlockingBox$Line", "stem", "[I", true)
  | 9 => ("InterlockingBox$Line", "next", "[[I", true)
  | 10 => ("InterlockingBox$Line", "routes", "[[I", true)
  | _ => ("InterlockingBox$Line", "cost", "[I", true)
def tyX4 : Nat → FieldType := fun k => match k with
  | 0 => .int
  | 1 => .int
  | 2 => .int
  | 3 => .int
  | 4 => .int
  | 5 => .array .int
  | 6 => .array .int
  | 7 => .array .int
  | 8 => .array .int
  | 9 => .array (.array .int)
  | 10 => .array (.array .int)
  | _ => .array .int
abbrev wsX40 : List Cond := u_ws RX4 TX4 12
theorem nmX4 : ∀ a, a < 12 → ∀ b, b < 12 → a ≠ b → (TX4 a).2.1 ≠ (TX4 b).2.1 := by decide +kernel
theorem tyX4_ok : ∀ k, k < 12 → parseFieldDescriptor (TX4 k).2.2.1 = some (tyX4 k) := by decide +kernel
abbrev cX4_init : ByteArray := prog_6_method_1_code
def yX4_init : MethodName := ⟨RX4, "<init>", "()V"⟩
abbrev cX4_copyFrom : ByteArray := prog_6_method_2_code
def yX4_copyFrom : MethodName := ⟨RX4, "copyFrom", "(LInterlockingBox$Line;)V"⟩
abbrev cX4_has : ByteArray := prog_6_method_3_code
def yX4_has : MethodName := ⟨RX4, "has", "(I)Z"⟩
abbrev cX4_hasPoint : ByteArray := prog_6_method_4_code
def yX4_hasPoint : MethodName := ⟨RX4, "hasPoint", "(I)Z"⟩
abbrev cX4_hasExit : ByteArray := prog_6_method_5_code
def yX4_hasExit : MethodName := ⟨RX4, "hasExit", "(I)Z"⟩
abbrev cX4_isStem : ByteArray := prog_6_method_6_code
def yX4_isStem : MethodName := ⟨RX4, "isStem", "(I)Z"⟩
abbrev cX4_leadsTo : ByteArray := prog_6_method_7_code
def yX4_leadsTo : MethodName := ⟨RX4, "leadsTo", "(II)Z"⟩
abbrev cX4_lengthOf : ByteArray := prog_6_method_8_code
def yX4_lengthOf : MethodName := ⟨RX4, "lengthOf", "(I)I"⟩
abbrev cX4_stemOf : ByteArray := prog_6_method_9_code
def yX4_stemOf : MethodName := ⟨RX4, "stemOf", "(I)I"⟩
abbrev cX4_pointsLeft : ByteArray := prog_6_method_10_code
def yX4_pointsLeft : MethodName := ⟨RX4, "pointsLeft", "(I)Z"⟩
abbrev cX4_exitOf : ByteArray := prog_6_method_11_code
def yX4_exitOf : MethodName := ⟨RX4, "exitOf", "(I)I"⟩
abbrev cX4_makeBlock : ByteArray := prog_6_method_12_code
def yX4_makeBlock : MethodName := ⟨RX4, "makeBlock", "(I)I"⟩
abbrev cX4_makePoint : ByteArray := prog_6_method_13_code
def yX4_makePoint : MethodName := ⟨RX4, "makePoint", "(III)I"⟩
abbrev cX4_makeLink : ByteArray := prog_6_method_14_code
def yX4_makeLink : MethodName := ⟨RX4, "makeLink", "(II)I"⟩
abbrev cX4_turn : ByteArray := prog_6_method_15_code
def yX4_turn : MethodName := ⟨RX4, "turn", "(I)V"⟩
abbrev cX4_turnForRoute : ByteArray := prog_6_method_16_code
def yX4_turnForRoute : MethodName := ⟨RX4, "turnForRoute", "(II)V"⟩
abbrev cX4_learnRoutes : ByteArray := prog_6_method_17_code
def yX4_learnRoutes : MethodName := ⟨RX4, "learnRoutes", "()V"⟩
abbrev cX4_learnRoutesTo : ByteArray := prog_6_method_18_code
def yX4_learnRoutesTo : MethodName := ⟨RX4, "learnRoutesTo", "(I)V"⟩
abbrev cX4_nearestBlock : ByteArray := prog_6_method_19_code
def yX4_nearestBlock : MethodName := ⟨RX4, "nearestBlock", "(I)I"⟩
abbrev cX4_nextOnRoute : ByteArray := prog_6_method_20_code
def yX4_nextOnRoute : MethodName := ⟨RX4, "nextOnRoute", "(II)I"⟩
abbrev cX4_routeBlocks : ByteArray := prog_6_method_21_code
def yX4_routeBlocks : MethodName := ⟨RX4, "routeBlocks", "(II)I"⟩
abbrev cX4_blockOnRoute : ByteArray := prog_6_method_22_code
def yX4_blockOnRoute : MethodName := ⟨RX4, "blockOnRoute", "(III)I"⟩
abbrev cX4_totalLength : ByteArray := prog_6_method_23_code
def yX4_totalLength : MethodName := ⟨RX4, "totalLength", "(I)I"⟩
abbrev cX4_numberOfPaths : ByteArray := prog_6_method_24_code
def yX4_numberOfPaths : MethodName := ⟨RX4, "numberOfPaths", "(II)I"⟩
abbrev cX4_shortestPath : ByteArray := prog_6_method_25_code
def yX4_shortestPath : MethodName := ⟨RX4, "shortestPath", "(II)I"⟩
abbrev cX4_countPaths : ByteArray := prog_6_method_26_code
def yX4_countPaths : MethodName := ⟨RX4, "countPaths", "(LInterlockingBox$Line;IIII)I"⟩
abbrev cX4_tryPaths : ByteArray := prog_6_method_27_code
def yX4_tryPaths : MethodName := ⟨RX4, "tryPaths", "(LInterlockingBox$Line;IIII)I"⟩
def RX5 : String := "InterlockingBox$Program"
def TX5 : u_T := fun k => match k with
  | 0 => ("InterlockingBox$Program", "text", "[C", true)
  | 1 => ("InterlockingBox$Program", "length", "I", false)
  | 2 => ("InterlockingBox$Program", "commands", "[LInterlockingBox$Command;", true)
  | 3 => ("InterlockingBox$Program", "numbers", "[[I", true)
  | 4 => ("InterlockingBox$Program", "count", "I", false)
  | _ => ("InterlockingBox$Program", "stop", "I", false)
def tyX5 : Nat → FieldType := fun k => match k with
  | 0 => .array .char
  | 1 => .int
  | 2 => .array (.object "InterlockingBox$Command")
  | 3 => .array (.array .int)
  | 4 => .int
  | _ => .int
abbrev wsX50 : List Cond := u_ws RX5 TX5 6
theorem nmX5 : ∀ a, a < 6 → ∀ b, b < 6 → a ≠ b → (TX5 a).2.1 ≠ (TX5 b).2.1 := by decide +kernel
theorem tyX5_ok : ∀ k, k < 6 → parseFieldDescriptor (TX5 k).2.2.1 = some (tyX5 k) := by decide +kernel
abbrev cX5_init : ByteArray := prog_7_method_1_code
def yX5_init : MethodName := ⟨RX5, "<init>", "()V"⟩
abbrev cX5_append : ByteArray := prog_7_method_2_code
def yX5_append : MethodName := ⟨RX5, "append", "(C)Z"⟩
abbrev cX5_clear : ByteArray := prog_7_method_3_code
def yX5_clear : MethodName := ⟨RX5, "clear", "()V"⟩
abbrev cX5_command : ByteArray := prog_7_method_4_code
def yX5_command : MethodName := ⟨RX5, "command", "(I)LInterlockingBox$Command;"⟩
abbrev cX5_number : ByteArray := prog_7_method_5_code
def yX5_number : MethodName := ⟨RX5, "number", "(II)I"⟩
abbrev cX5_parse : ByteArray := prog_7_method_6_code
def yX5_parse : MethodName := ⟨RX5, "parse", "()Z"⟩
abbrev cX5_parseCommand : ByteArray := prog_7_method_7_code
def yX5_parseCommand : MethodName := ⟨RX5, "parseCommand", "(I)I"⟩
abbrev cX5_match : ByteArray := prog_7_method_8_code
def yX5_match : MethodName := ⟨RX5, "match", "(Ljava/lang/String;I)I"⟩
abbrev cX5_isAt : ByteArray := prog_7_method_9_code
def yX5_isAt : MethodName := ⟨RX5, "isAt", "(IC)Z"⟩
abbrev cX5_digitsAt : ByteArray := prog_7_method_10_code
def yX5_digitsAt : MethodName := ⟨RX5, "digitsAt", "(II)I"⟩
abbrev cX5_isDigit : ByteArray := prog_7_method_11_code
def yX5_isDigit : MethodName := ⟨RX5, "isDigit", "(I)Z"⟩
abbrev cX5_noteNumber : ByteArray := prog_7_method_12_code
def yX5_noteNumber : MethodName := ⟨RX5, "noteNumber", "(III)V"⟩
def RX6 : String := "InterlockingBox$Relation"
def TX6 : u_T := fun k => match k with
  | 0 => ("InterlockingBox$Relation", "size", "I", false)
  | 1 => ("InterlockingBox$Relation", "related", "[I", true)
  | 2 => ("InterlockingBox$Relation", "found", "[I", true)
  | 3 => ("InterlockingBox$Relation", "earliest", "[I", true)
  | 4 => ("InterlockingBox$Relation", "visits", "I", false)
  | 5 => ("InterlockingBox$Relation", "pending", "I", false)
  | _ => ("InterlockingBox$Relation", "circling", "I", false)
def tyX6 : Nat → FieldType := fun k => match k with
  | 0 => .int
  | 1 => .array .int
  | 2 => .array .int
  | 3 => .array .int
  | 4 => .int
  | 5 => .int
  | _ => .int
abbrev wsX60 : List Cond := u_ws RX6 TX6 7
theorem nmX6 : ∀ a, a < 7 → ∀ b, b < 7 → a ≠ b → (TX6 a).2.1 ≠ (TX6 b).2.1 := by decide +kernel
theorem tyX6_ok : ∀ k, k < 7 → parseFieldDescriptor (TX6 k).2.2.1 = some (tyX6 k) := by decide +kernel
abbrev cX6_init : ByteArray := prog_8_method_1_code
def yX6_init : MethodName := ⟨RX6, "<init>", "()V"⟩
abbrev cX6_begin : ByteArray := prog_8_method_2_code
def yX6_begin : MethodName := ⟨RX6, "begin", "(I)V"⟩
abbrev cX6_relate : ByteArray := prog_8_method_3_code
def yX6_relate : MethodName := ⟨RX6, "relate", "(II)V"⟩
abbrev cX6_inCircles : ByteArray := prog_8_method_4_code
def yX6_inCircles : MethodName := ⟨RX6, "inCircles", "()I"⟩
abbrev cX6_search : ByteArray := prog_8_method_5_code
def yX6_search : MethodName := ⟨RX6, "search", "(LInterlockingBox$Relation;II)V"⟩
abbrev cX6_enter : ByteArray := prog_8_method_6_code
def yX6_enter : MethodName := ⟨RX6, "enter", "(I)V"⟩
abbrev cX6_closeSet : ByteArray := prog_8_method_7_code
def yX6_closeSet : MethodName := ⟨RX6, "closeSet", "(I)V"⟩
abbrev cX6_inCirclesByPairs : ByteArray := prog_8_method_8_code
def yX6_inCirclesByPairs : MethodName := ⟨RX6, "inCirclesByPairs", "()I"⟩
abbrev cX6_mostUnrelated : ByteArray := prog_8_method_9_code
def yX6_mostUnrelated : MethodName := ⟨RX6, "mostUnrelated", "()I"⟩
abbrev cX6_takeOrLeave : ByteArray := prog_8_method_10_code
def yX6_takeOrLeave : MethodName := ⟨RX6, "takeOrLeave", "(LInterlockingBox$Relation;II)I"⟩
abbrev cX6_mostUnrelatedBySets : ByteArray := prog_8_method_11_code
def yX6_mostUnrelatedBySets : MethodName := ⟨RX6, "mostUnrelatedBySets", "()I"⟩
abbrev cX6_isUnrelated : ByteArray := prog_8_method_12_code
def yX6_isUnrelated : MethodName := ⟨RX6, "isUnrelated", "(I)Z"⟩
def RX7 : String := "InterlockingBox$State"
def TX7 : u_T := fun k => match k with
  | 0 => ("InterlockingBox$State", "line", "LInterlockingBox$Line;", true)
  | 1 => ("InterlockingBox$State", "trains", "[LInterlockingBox$Train;", true)
  | 2 => ("InterlockingBox$State", "queue", "[I", true)
  | 3 => ("InterlockingBox$State", "present", "I", false)
  | 4 => ("InterlockingBox$State", "waiting", "I", false)
  | 5 => ("InterlockingBox$State", "come", "I", false)
  | 6 => ("InterlockingBox$State", "gone", "I", false)
  | 7 => ("InterlockingBox$State", "time", "I", false)
  | _ => ("InterlockingBox$State", "allDelays", "J", false)
def tyX7 : Nat → FieldType := fun k => match k with
  | 0 => .object "InterlockingBox$Line"
  | 1 => .array (.object "InterlockingBox$Train")
  | 2 => .array .int
  | 3 => .int
  | 4 => .int
  | 5 => .int
  | 6 => .int
  | 7 => .int
  | _ => .long
abbrev wsX70 : List Cond := u_ws RX7 TX7 9
theorem nmX7 : ∀ a, a < 9 → ∀ b, b < 9 → a ≠ b → (TX7 a).2.1 ≠ (TX7 b).2.1 := by decide +kernel
theorem tyX7_ok : ∀ k, k < 9 → parseFieldDescriptor (TX7 k).2.2.1 = some (tyX7 k) := by decide +kernel
abbrev cX7_init : ByteArray := prog_9_method_1_code
def yX7_init : MethodName := ⟨RX7, "<init>", "()V"⟩
abbrev cX7_copyFrom : ByteArray := prog_9_method_2_code
def yX7_copyFrom : MethodName := ⟨RX7, "copyFrom", "(LInterlockingBox$State;)V"⟩
abbrev cX7_find : ByteArray := prog_9_method_3_code
def yX7_find : MethodName := ⟨RX7, "find", "(I)LInterlockingBox$Train;"⟩
abbrev cX7_held : ByteArray := prog_9_method_4_code
def yX7_held : MethodName := ⟨RX7, "held", "()I"⟩
abbrev cX7_holderOf : ByteArray := prog_9_method_5_code
def yX7_holderOf : MethodName := ⟨RX7, "holderOf", "(I)I"⟩
abbrev cX7_lockerOf : ByteArray := prog_9_method_6_code
def yX7_lockerOf : MethodName := ⟨RX7, "lockerOf", "(I)I"⟩
abbrev cX7_isReserved : ByteArray := prog_9_method_7_code
def yX7_isReserved : MethodName := ⟨RX7, "isReserved", "(I)Z"⟩
abbrev cX7_stateOf : ByteArray := prog_9_method_8_code
def yX7_stateOf : MethodName := ⟨RX7, "stateOf", "(I)C"⟩
abbrev cX7_shutBlock : ByteArray := prog_9_method_9_code
def yX7_shutBlock : MethodName := ⟨RX7, "shutBlock", "(I)I"⟩
abbrev cX7_openBlock : ByteArray := prog_9_method_10_code
def yX7_openBlock : MethodName := ⟨RX7, "openBlock", "(I)I"⟩
abbrev cX7_movePoint : ByteArray := prog_9_method_11_code
def yX7_movePoint : MethodName := ⟨RX7, "movePoint", "(I)I"⟩
abbrev cX7_bringTrain : ByteArray := prog_9_method_12_code
def yX7_bringTrain : MethodName := ⟨RX7, "bringTrain", "(II)I"⟩
abbrev cX7_inQueue : ByteArray := prog_9_method_13_code
def yX7_inQueue : MethodName := ⟨RX7, "inQueue", "(I)I"⟩
abbrev cX7_joinQueue : ByteArray := prog_9_method_14_code
def yX7_joinQueue : MethodName := ⟨RX7, "joinQueue", "(I)V"⟩
abbrev cX7_leaveQueue : ByteArray := prog_9_method_15_code
def yX7_leaveQueue : MethodName := ⟨RX7, "leaveQueue", "(I)V"⟩
abbrev cX7_routeOf : ByteArray := prog_9_method_16_code
def yX7_routeOf : MethodName := ⟨RX7, "routeOf", "(LInterlockingBox$Train;)I"⟩
abbrev cX7_canSet : ByteArray := prog_9_method_17_code
def yX7_canSet : MethodName := ⟨RX7, "canSet", "(LInterlockingBox$Train;)Z"⟩
abbrev cX7_firstNotFree : ByteArray := prog_9_method_18_code
def yX7_firstNotFree : MethodName := ⟨RX7, "firstNotFree", "(LInterlockingBox$Train;)I"⟩
abbrev cX7_grantRoute : ByteArray := prog_9_method_19_code
def yX7_grantRoute : MethodName := ⟨RX7, "grantRoute", "(I)I"⟩
abbrev cX7_reserveRoute : ByteArray := prog_9_method_20_code
def yX7_reserveRoute : MethodName := ⟨RX7, "reserveRoute", "(LInterlockingBox$Train;)V"⟩
abbrev cX7_withdrawRoute : ByteArray := prog_9_method_21_code
def yX7_withdrawRoute : MethodName := ⟨RX7, "withdrawRoute", "(I)I"⟩
abbrev cX7_letPass : ByteArray := prog_9_method_22_code
def yX7_letPass : MethodName := ⟨RX7, "letPass", "(I)I"⟩
abbrev cX7_passMinute : ByteArray := prog_9_method_23_code
def yX7_passMinute : MethodName := ⟨RX7, "passMinute", "()V"⟩
abbrev cX7_enterNext : ByteArray := prog_9_method_24_code
def yX7_enterNext : MethodName := ⟨RX7, "enterNext", "(LInterlockingBox$Train;)V"⟩
abbrev cX7_removeArrived : ByteArray := prog_9_method_25_code
def yX7_removeArrived : MethodName := ⟨RX7, "removeArrived", "()V"⟩
abbrev cX7_considerQueue : ByteArray := prog_9_method_26_code
def yX7_considerQueue : MethodName := ⟨RX7, "considerQueue", "()V"⟩
abbrev cX7_minutesToGo : ByteArray := prog_9_method_27_code
def yX7_minutesToGo : MethodName := ⟨RX7, "minutesToGo", "(LInterlockingBox$Train;)I"⟩
abbrev cX7_waits : ByteArray := prog_9_method_28_code
def yX7_waits : MethodName := ⟨RX7, "waits", "(LInterlockingBox$Train;LInterlockingBox$Train;)Z"⟩
abbrev cX7_routesMeet : ByteArray := prog_9_method_29_code
def yX7_routesMeet : MethodName := ⟨RX7, "routesMeet", "(LInterlockingBox$Train;LInterlockingBox$Train;)Z"⟩
abbrev cX7_relateWaiting : ByteArray := prog_9_method_30_code
def yX7_relateWaiting : MethodName := ⟨RX7, "relateWaiting", "(LInterlockingBox$Relation;)V"⟩
abbrev cX7_relateConflicts : ByteArray := prog_9_method_31_code
def yX7_relateConflicts : MethodName := ⟨RX7, "relateConflicts", "(LInterlockingBox$Relation;)V"⟩
def RX8 : String := "InterlockingBox$Train"
def TX8 : u_T := fun k => match k with
  | 0 => ("InterlockingBox$Train", "number", "I", false)
  | 1 => ("InterlockingBox$Train", "block", "I", false)
  | 2 => ("InterlockingBox$Train", "destination", "I", false)
  | 3 => ("InterlockingBox$Train", "reserved", "I", false)
  | 4 => ("InterlockingBox$Train", "nextMinute", "I", false)
  | _ => ("InterlockingBox$Train", "delay", "I", false)
def tyX8 : Nat → FieldType := fun k => match k with
  | 0 => .int
  | 1 => .int
  | 2 => .int
  | 3 => .int
  | 4 => .int
  | _ => .int
abbrev wsX80 : List Cond := u_ws RX8 TX8 6
theorem nmX8 : ∀ a, a < 6 → ∀ b, b < 6 → a ≠ b → (TX8 a).2.1 ≠ (TX8 b).2.1 := by decide +kernel
theorem tyX8_ok : ∀ k, k < 6 → parseFieldDescriptor (TX8 k).2.2.1 = some (tyX8 k) := by decide +kernel
abbrev cX8_init : ByteArray := prog_10_method_1_code
def yX8_init : MethodName := ⟨RX8, "<init>", "()V"⟩
abbrev cX8_copyFrom : ByteArray := prog_10_method_2_code
def yX8_copyFrom : MethodName := ⟨RX8, "copyFrom", "(LInterlockingBox$Train;)V"⟩
abbrev cX8_begin : ByteArray := prog_10_method_3_code
def yX8_begin : MethodName := ⟨RX8, "begin", "(III)V"⟩
abbrev cX8_isRouted : ByteArray := prog_10_method_4_code
def yX8_isRouted : MethodName := ⟨RX8, "isRouted", "()Z"⟩
abbrev cX8_held : ByteArray := prog_10_method_5_code
def yX8_held : MethodName := ⟨RX8, "held", "()I"⟩
abbrev cX8_locks : ByteArray := prog_10_method_6_code
def yX8_locks : MethodName := ⟨RX8, "locks", "(I)Z"⟩
def RX9 : String := "InterlockingBox"
def TX9 : u_T := fun k => match k with
  | 0 => ("InterlockingBox", "now", "LInterlockingBox$State;", true)
  | 1 => ("InterlockingBox", "saved", "LInterlockingBox$State;", true)
  | 2 => ("InterlockingBox", "copy", "LInterlockingBox$State;", true)
  | 3 => ("InterlockingBox", "history", "LInterlockingBox$History;", true)
  | 4 => ("InterlockingBox", "relation", "LInterlockingBox$Relation;", true)
  | 5 => ("InterlockingBox", "program", "LInterlockingBox$Program;", true)
  | 6 => ("InterlockingBox", "output", "Ljava/lang/StringBuilder;", true)
  | 7 => ("InterlockingBox", "anySaved", "Z", false)
  | 8 => ("InterlockingBox", "recordedReason", "C", false)
  | 9 => ("InterlockingBox", "recordedBlock", "I", false)
  | 10 => ("InterlockingBox", "recordedPosition", "I", false)
  | _ => ("InterlockingBox", "recordedCommand", "I", false)
def tyX9 : Nat → FieldType := fun k => match k with
  | 0 => .object "InterlockingBox$State"
  | 1 => .object "InterlockingBox$State"
  | 2 => .object "InterlockingBox$State"
  | 3 => .object "InterlockingBox$History"
  | 4 => .object "InterlockingBox$Relation"
  | 5 => .object "InterlockingBox$Program"
  | 6 => .object "java/lang/StringBuilder"
  | 7 => .boolean
  | 8 => .char
  | 9 => .int
  | 10 => .int
  | _ => .int
abbrev wsX90 : List Cond := u_ws RX9 TX9 12
theorem nmX9 : ∀ a, a < 12 → ∀ b, b < 12 → a ≠ b → (TX9 a).2.1 ≠ (TX9 b).2.1 := by decide +kernel
theorem tyX9_ok : ∀ k, k < 12 → parseFieldDescriptor (TX9 k).2.2.1 = some (tyX9 k) := by decide +kernel
abbrev cX9_init : ByteArray := prog_1_method_1_code
def yX9_init : MethodName := ⟨RX9, "<init>", "()V"⟩
abbrev cX9_addBlock : ByteArray := prog_1_method_2_code
def yX9_addBlock : MethodName := ⟨RX9, "addBlock", "(I)I"⟩
abbrev cX9_addPoint : ByteArray := prog_1_method_3_code
def yX9_addPoint : MethodName := ⟨RX9, "addPoint", "(III)I"⟩
abbrev cX9_addLink : ByteArray := prog_1_method_4_code
def yX9_addLink : MethodName := ⟨RX9, "addLink", "(II)I"⟩
abbrev cX9_shut : ByteArray := prog_1_method_5_code
def yX9_shut : MethodName := ⟨RX9, "shut", "(I)I"⟩
abbrev cX9_open : ByteArray := prog_1_method_6_code
def yX9_open : MethodName := ⟨RX9, "open", "(I)I"⟩
abbrev cX9_throwPoint : ByteArray := prog_1_method_7_code
def yX9_throwPoint : MethodName := ⟨RX9, "throwPoint", "(I)Z"⟩
abbrev cX9_addTrain : ByteArray := prog_1_method_8_code
def yX9_addTrain : MethodName := ⟨RX9, "addTrain", "(II)I"⟩
abbrev cX9_setRoute : ByteArray := prog_1_method_9_code
def yX9_setRoute : MethodName := ⟨RX9, "setRoute", "(I)I"⟩
abbrev cX9_releaseRoute : ByteArray := prog_1_method_10_code
def yX9_releaseRoute : MethodName := ⟨RX9, "releaseRoute", "(I)I"⟩
abbrev cX9_pass : ByteArray := prog_1_method_11_code
def yX9_pass : MethodName := ⟨RX9, "pass", "(I)I"⟩
abbrev cX9_blocks : ByteArray := prog_1_method_12_code
def yX9_blocks : MethodName := ⟨RX9, "blocks", "()I"⟩
abbrev cX9_blockLength : ByteArray := prog_1_method_13_code
def yX9_blockLength : MethodName := ⟨RX9, "blockLength", "(I)I"⟩
abbrev cX9_blockState : ByteArray := prog_1_method_14_code
def yX9_blockState : MethodName := ⟨RX9, "blockState", "(I)C"⟩
abbrev cX9_trainAt : ByteArray := prog_1_method_15_code
def yX9_trainAt : MethodName := ⟨RX9, "trainAt", "(I)I"⟩
abbrev cX9_liesLeft : ByteArray := prog_1_method_16_code
def yX9_liesLeft : MethodName := ⟨RX9, "liesLeft", "(I)Z"⟩
abbrev cX9_lockedBy : ByteArray := prog_1_method_17_code
def yX9_lockedBy : MethodName := ⟨RX9, "lockedBy", "(I)I"⟩
abbrev cX9_routeLength : ByteArray := prog_1_method_18_code
def yX9_routeLength : MethodName := ⟨RX9, "routeLength", "(II)I"⟩
abbrev cX9_routeLengthByPaths : ByteArray := prog_1_method_19_code
def yX9_routeLengthByPaths : MethodName := ⟨RX9, "routeLengthByPaths", "(II)I"⟩
abbrev cX9_routeBlock : ByteArray := prog_1_method_20_code
def yX9_routeBlock : MethodName := ⟨RX9, "routeBlock", "(III)I"⟩
abbrev cX9_paths : ByteArray := prog_1_method_21_code
def yX9_paths : MethodName := ⟨RX9, "paths", "(II)I"⟩
abbrev cX9_trains : ByteArray := prog_1_method_22_code
def yX9_trains : MethodName := ⟨RX9, "trains", "()I"⟩
abbrev cX9_isPresent : ByteArray := prog_1_method_23_code
def yX9_isPresent : MethodName := ⟨RX9, "isPresent", "(I)Z"⟩
abbrev cX9_blockOf : ByteArray := prog_1_method_24_code
def yX9_blockOf : MethodName := ⟨RX9, "blockOf", "(I)I"⟩
abbrev cX9_destination : ByteArray := prog_1_method_25_code
def yX9_destination : MethodName := ⟨RX9, "destination", "(I)I"⟩
abbrev cX9_hasRoute : ByteArray := prog_1_method_26_code
def yX9_hasRoute : MethodName := ⟨RX9, "hasRoute", "(I)Z"⟩
abbrev cX9_isClear : ByteArray := prog_1_method_27_code
def yX9_isClear : MethodName := ⟨RX9, "isClear", "(I)Z"⟩
abbrev cX9_minutesUntilNext : ByteArray := prog_1_method_28_code
def yX9_minutesUntilNext : MethodName := ⟨RX9, "minutesUntilNext", "(I)I"⟩
abbrev cX9_minutesUntilArrival : ByteArray := prog_1_method_29_code
def yX9_minutesUntilArrival : MethodName := ⟨RX9, "minutesUntilArrival", "(I)I"⟩
abbrev cX9_minutesUntilArrivalByPassing : ByteArray := prog_1_method_30_code
def yX9_minutesUntilArrivalByPassing : MethodName := ⟨RX9, "minutesUntilArrivalByPassing", "(I)I"⟩
abbrev cX9_delay : ByteArray := prog_1_method_31_code
def yX9_delay : MethodName := ⟨RX9, "delay", "(I)I"⟩
abbrev cX9_queued : ByteArray := prog_1_method_32_code
def yX9_queued : MethodName := ⟨RX9, "queued", "(I)I"⟩
abbrev cX9_waitsFor : ByteArray := prog_1_method_33_code
def yX9_waitsFor : MethodName := ⟨RX9, "waitsFor", "(II)Z"⟩
abbrev cX9_deadlocked : ByteArray := prog_1_method_34_code
def yX9_deadlocked : MethodName := ⟨RX9, "deadlocked", "()I"⟩
abbrev cX9_deadlockedByPairs : ByteArray := prog_1_method_35_code
def yX9_deadlockedByPairs : MethodName := ⟨RX9, "deadlockedByPairs", "()I"⟩
abbrev cX9_conflict : ByteArray := prog_1_method_36_code
def yX9_conflict : MethodName := ⟨RX9, "conflict", "(II)Z"⟩
abbrev cX9_mostWithoutConflict : ByteArray := prog_1_method_37_code
def yX9_mostWithoutConflict : MethodName := ⟨RX9, "mostWithoutConflict", "()I"⟩
abbrev cX9_mostWithoutConflictBySets : ByteArray := prog_1_method_38_code
def yX9_mostWithoutConflictBySets : MethodName := ⟨RX9, "mostWithoutConflictBySets", "()I"⟩
abbrev cX9_refusalReason : ByteArray := prog_1_method_39_code
def yX9_refusalReason : MethodName := ⟨RX9, "refusalReason", "()C"⟩
abbrev cX9_refusalBlock : ByteArray := prog_1_method_40_code
def yX9_refusalBlock : MethodName := ⟨RX9, "refusalBlock", "()I"⟩
abbrev cX9_time : ByteArray := prog_1_method_41_code
def yX9_time : MethodName := ⟨RX9, "time", "()I"⟩
abbrev cX9_arrived : ByteArray := prog_1_method_42_code
def yX9_arrived : MethodName := ⟨RX9, "arrived", "()I"⟩
abbrev cX9_totalDelay : ByteArray := prog_1_method_43_code
def yX9_totalDelay : MethodName := ⟨RX9, "totalDelay", "()J"⟩
abbrev cX9_meanDelay : ByteArray := prog_1_method_44_code
def yX9_meanDelay : MethodName := ⟨RX9, "meanDelay", "()D"⟩
abbrev cX9_usedShare : ByteArray := prog_1_method_45_code
def yX9_usedShare : MethodName := ⟨RX9, "usedShare", "()F"⟩
abbrev cX9_isConsistent : ByteArray := prog_1_method_46_code
def yX9_isConsistent : MethodName := ⟨RX9, "isConsistent", "()Z"⟩
abbrev cX9_writeTrain : ByteArray := prog_1_method_48_code
def yX9_writeTrain : MethodName := ⟨RX9, "writeTrain", "(I)I"⟩
abbrev cX9_type : ByteArray := prog_1_method_50_code
def yX9_type : MethodName := ⟨RX9, "type", "(C)I"⟩
abbrev cX9_run : ByteArray := prog_1_method_51_code
def yX9_run : MethodName := ⟨RX9, "run", "()I"⟩
abbrev cX9_undo : ByteArray := prog_1_method_54_code
def yX9_undo : MethodName := ⟨RX9, "undo", "()I"⟩
abbrev cX9_save : ByteArray := prog_1_method_55_code
def yX9_save : MethodName := ⟨RX9, "save", "()I"⟩
abbrev cX9_restore : ByteArray := prog_1_method_56_code
def yX9_restore : MethodName := ⟨RX9, "restore", "()I"⟩
abbrev cX9_settle : ByteArray := prog_1_method_57_code
def yX9_settle : MethodName := ⟨RX9, "settle", "(I)I"⟩
abbrev cX9_throwFor : ByteArray := prog_1_method_58_code
def yX9_throwFor : MethodName := ⟨RX9, "throwFor", "(I)V"⟩
abbrev cX9_checkBlock : ByteArray := prog_1_method_59_code
def yX9_checkBlock : MethodName := ⟨RX9, "checkBlock", "(I)V"⟩
abbrev cX9_checkPoint : ByteArray := prog_1_method_60_code
def yX9_checkPoint : MethodName := ⟨RX9, "checkPoint", "(I)V"⟩
abbrev cX9_checkRoute : ByteArray := prog_1_method_61_code
def yX9_checkRoute : MethodName := ⟨RX9, "checkRoute", "(II)V"⟩
abbrev cX9_presentTrain : ByteArray := prog_1_method_62_code
def yX9_presentTrain : MethodName := ⟨RX9, "presentTrain", "(I)LInterlockingBox$Train;"⟩
abbrev cX9_routedTrain : ByteArray := prog_1_method_63_code
def yX9_routedTrain : MethodName := ⟨RX9, "routedTrain", "(I)LInterlockingBox$Train;"⟩
abbrev cX9_writeRestOfRoute : ByteArray := prog_1_method_64_code
def yX9_writeRestOfRoute : MethodName := ⟨RX9, "writeRestOfRoute", "(LInterlockingBox$Train;)V"⟩
abbrev cX9_grantOrRecord : ByteArray := prog_1_method_65_code
def yX9_grantOrRecord : MethodName := ⟨RX9, "grantOrRecord", "(I)I"⟩
abbrev cX9_recordRefusal : ByteArray := prog_1_method_66_code
def yX9_recordRefusal : MethodName := ⟨RX9, "recordRefusal", "(LInterlockingBox$Train;)V"⟩
abbrev cX9_execute : ByteArray := prog_1_method_67_code
def yX9_execute : MethodName := ⟨RX9, "execute", "(I)I"⟩
abbrev cX9_contains : ByteArray := prog_1_method_68_code
def yX9_contains : MethodName := ⟨RX9, "contains", "(II)Z"⟩
def RX10 : String := "InterlockingBoxModel"
def TX10 : u_T := fun k => match k with
  | _ => ("", "", "", false)
def tyX10 : Nat → FieldType := fun k => match k with
  | _ => .int
abbrev wsX100 : List Cond := u_ws RX10 TX10 0
theorem nmX10 : ∀ a, a < 0 → ∀ b, b < 0 → a ≠ b → (TX10 a).2.1 ≠ (TX10 b).2.1 := by decide +kernel
theorem tyX10_ok : ∀ k, k < 0 → parseFieldDescriptor (TX10 k).2.2.1 = some (tyX10 k) := by decide +kernel
def RJx145de : String := "java/io/Serializable"
def TJx145de : u_T := fun k => match k with
  | _ => ("", "", "", false)
def tyJx145de : Nat → FieldType := fun k => match k with
  | _ => .int
abbrev wsJx145de0 : List Cond := u_ws RJx145de TJx145de 0
theorem nmJx145de : ∀ a, a < 0 → ∀ b, b < 0 → a ≠ b → (TJx145de a).2.1 ≠ (TJx145de b).2.1 := by decide +kernel
theorem tyJx145de_ok : ∀ k, k < 0 → parseFieldDescriptor (TJx145de k).2.2.1 = some (tyJx145de k) := by decide +kernel
def RJ5 : String := "java/lang/AbstractStringBuilder"
def TJ5 : u_T := fun k => match k with
  | _ => ("", "", "", false)
def tyJ5 : Nat → FieldType := fun k => match k with
  | _ => .int
abbrev wsJ50 : List Cond := u_ws RJ5 TJ5 0
theorem nmJ5 : ∀ a, a < 0 → ∀ b, b < 0 → a ≠ b → (TJ5 a).2.1 ≠ (TJ5 b).2.1 := by decide +kernel
theorem tyJ5_ok : ∀ k, k < 0 → parseFieldDescriptor (TJ5 k).2.2.1 = some (tyJ5 k) := by decide +kernel
abbrev cJ5_init_d00df : ByteArray := prog_14_method_2_code
def yJ5_init_d00df : MethodName := ⟨RJ5, "<init>", "(I)V"⟩
abbrev cJ5_length_8abf5 : ByteArray := prog_14_method_6_code
def yJ5_length_8abf5 : MethodName := ⟨RJ5, "length", "()I"⟩
abbrev cJ5_ensureCapacityInternal_d00df : ByteArray := prog_14_method_9_code
def yJ5_ensureCapacityInternal_d00df : MethodName := ⟨RJ5, "ensureCapacityInternal", "(I)V"⟩
abbrev cJ5_newCapacity_0f7a4 : ByteArray := prog_14_method_10_code
def yJ5_newCapacity_0f7a4 : MethodName := ⟨RJ5, "newCapacity", "(I)I"⟩
abbrev cJ5_inflate_da8c8 : ByteArray := prog_14_method_11_code
def yJ5_inflate_da8c8 : MethodName := ⟨RJ5, "inflate", "()V"⟩
abbrev cJ5_setLength_d00df : ByteArray := prog_14_method_13_code
def yJ5_setLength_d00df : MethodName := ⟨RJ5, "setLength", "(I)V"⟩
abbrev cJ5_append_cf1ce : ByteArray := prog_14_method_22_code
def yJ5_append_cf1ce : MethodName := ⟨RJ5, "append", "(Ljava/lang/String;)Ljava/lang/AbstractStringBuilder;"⟩
abbrev cJ5_appendNull_278bc : ByteArray := prog_14_method_26_code
def yJ5_appendNull_278bc : MethodName := ⟨RJ5, "appendNull", "()Ljava/lang/AbstractStringBuilder;"⟩
abbrev cJ5_append_3fe6f : ByteArray := prog_14_method_31_code
def yJ5_append_3fe6f : MethodName := ⟨RJ5, "append", "(C)Ljava/lang/AbstractStringBuilder;"⟩
abbrev cJ5_append_c97b9 : ByteArray := prog_14_method_32_code
def yJ5_append_c97b9 : MethodName := ⟨RJ5, "append", "(I)Ljava/lang/AbstractStringBuilder;"⟩
abbrev cJ5_getValue_6d5f1 : ByteArray := prog_14_method_64_code
def yJ5_getValue_6d5f1 : MethodName := ⟨RJ5, "getValue", "()[B"⟩
abbrev cJ5_isLatin1_aae02 : ByteArray := prog_14_method_68_code
def yJ5_isLatin1_aae02 : MethodName := ⟨RJ5, "isLatin1", "()Z"⟩
abbrev cJ5_inflateIfNeededFor_a7421 : ByteArray := prog_14_method_71_code
def yJ5_inflateIfNeededFor_a7421 : MethodName := ⟨RJ5, "inflateIfNeededFor", "(Ljava/lang/String;)V"⟩
abbrev cJ5_putStringAt_47b60 : ByteArray := prog_14_method_73_code
def yJ5_putStringAt_47b60 : MethodName := ⟨RJ5, "putStringAt", "(ILjava/lang/String;)V"⟩
def RJx2cfe8 : String := "java/lang/Appendable"
def TJx2cfe8 : u_T := fun k => match k with
  | _ => ("", "", "", false)
def tyJx2cfe8 : Nat → FieldType := fun k => match k with
  | _ => .int
abbrev wsJx2cfe80 : List Cond := u_ws RJx2cfe8 TJx2cfe8 0
theorem nmJx2cfe8 : ∀ a, a < 0 → ∀ b, b < 0 → a ≠ b → (TJx2cfe8 a).2.1 ≠ (TJx2cfe8 b).2.1 := by decide +kernel
theorem tyJx2cfe8_ok : ∀ k, k < 0 → parseFieldDescriptor (TJx2cfe8 k).2.2.1 = some (tyJx2cfe8 k) := by decide +kernel
def RJx00060 : String := "java/lang/ArrayIndexOutOfBoundsException"
def TJx00060 : u_T := fun k => match k with
  | 0 => ("java/lang/Throwable", "backtrace", "Ljava/lang/Object;", false)
  | 1 => ("java/lang/Throwable", "detailMessage", "Ljava/lang/String;", false)
  | 2 => ("java/lang/Throwable", "cause", "Ljava/lang/Throwable;", false)
  | 3 => ("java/lang/Throwable", "stackTrace", "[Ljava/lang/StackTraceElement;", false)
  | 4 => ("java/lang/Throwable", "depth", "I", false)
  | _ => ("java/lang/Throwable", "suppressedExceptions", "Ljava/util/List;", false)
def tyJx00060 : Nat → FieldType := fun k => match k with
  | 0 => .object "java/lang/Object"
  | 1 => .object "java/lang/String"
  | 2 => .object "java/lang/Throwable"
  | 3 => .array (.object "java/lang/StackTraceElement")
  | 4 => .int
  | _ => .object "java/util/List"
abbrev wsJx000600 : List Cond := u_ws RJx00060 TJx00060 6
theorem nmJx00060 : ∀ a, a < 6 → ∀ b, b < 6 → a ≠ b → (TJx00060 a).2.1 ≠ (TJx00060 b).2.1 := by decide +kernel
theorem tyJx00060_ok : ∀ k, k < 6 → parseFieldDescriptor (TJx00060 k).2.2.1 = some (tyJx00060 k) := by decide +kernel
abbrev cJx00060_init_a7421 : ByteArray := prog_17_method_2_code
def yJx00060_init_a7421 : MethodName := ⟨RJx00060, "<init>", "(Ljava/lang/String;)V"⟩
abbrev cJx00060_init_d00df : ByteArray := prog_17_method_3_code
def yJx00060_init_d00df : MethodName := ⟨RJx00060, "<init>", "(I)V"⟩
def RJx9f9b0 : String := "java/lang/CharSequence"
def TJx9f9b0 : u_T := fun k => match k with
  | _ => ("", "", "", false)
def tyJx9f9b0 : Nat → FieldType := fun k => match k with
  | _ => .int
abbrev wsJx9f9b00 : List Cond := u_ws RJx9f9b0 TJx9f9b0 0
theorem nmJx9f9b0 : ∀ a, a < 0 → ∀ b, b < 0 → a ≠ b → (TJx9f9b0 a).2.1 ≠ (TJx9f9b0 b).2.1 := by decide +kernel
theorem tyJx9f9b0_ok : ∀ k, k < 0 → parseFieldDescriptor (TJx9f9b0 k).2.2.1 = some (tyJx9f9b0 k) := by decide +kernel
def RJx8e188 : String := "java/lang/Cloneable"
def TJx8e188 : u_T := fun k => match k with
  | _ => ("", "", "", false)
def tyJx8e188 : Nat → FieldType := fun k => match k with
  | _ => .int
abbrev wsJx8e1880 : List Cond := u_ws RJx8e188 TJx8e188 0
theorem nmJx8e188 : ∀ a, a < 0 → ∀ b, b < 0 → a ≠ b → (TJx8e188 a).2.1 ≠ (TJx8e188 b).2.1 := by decide +kernel
theorem tyJx8e188_ok : ∀ k, k < 0 → parseFieldDescriptor (TJx8e188 k).2.2.1 = some (tyJx8e188 k) := by decide +kernel
def RJxb160c : String := "java/lang/Comparable"
def TJxb160c : u_T := fun k => match k with
  | _ => ("", "", "", false)
def tyJxb160c : Nat → FieldType := fun k => match k with
  | _ => .int
abbrev wsJxb160c0 : List Cond := u_ws RJxb160c TJxb160c 0
theorem nmJxb160c : ∀ a, a < 0 → ∀ b, b < 0 → a ≠ b → (TJxb160c a).2.1 ≠ (TJxb160c b).2.1 := by decide +kernel
theorem tyJxb160c_ok : ∀ k, k < 0 → parseFieldDescriptor (TJxb160c k).2.2.1 = some (tyJxb160c k) := by decide +kernel
def RJx29ce0 : String := "java/lang/Enum"
def TJx29ce0 : u_T := fun k => match k with
  | _ => ("", "", "", false)
def tyJx29ce0 : Nat → FieldType := fun k => match k with
  | _ => .int
abbrev wsJx29ce00 : List Cond := u_ws RJx29ce0 TJx29ce0 0
theorem nmJx29ce0 : ∀ a, a < 0 → ∀ b, b < 0 → a ≠ b → (TJx29ce0 a).2.1 ≠ (TJx29ce0 b).2.1 := by decide +kernel
theorem tyJx29ce0_ok : ∀ k, k < 0 → parseFieldDescriptor (TJx29ce0 k).2.2.1 = some (tyJx29ce0 k) := by decide +kernel
abbrev cJx29ce0_ordinal_8abf5 : ByteArray := prog_21_method_2_code
def yJx29ce0_ordinal_8abf5 : MethodName := ⟨RJx29ce0, "ordinal", "()I"⟩
def RJ6 : String := "java/lang/Integer"
def TJ6 : u_T := fun k => match k with
  | _ => ("", "", "", false)
def tyJ6 : Nat → FieldType := fun k => match k with
  | _ => .int
abbrev wsJ60 : List Cond := u_ws RJ6 TJ6 0
theorem nmJ6 : ∀ a, a < 0 → ∀ b, b < 0 → a ≠ b → (TJ6 a).2.1 ≠ (TJ6 b).2.1 := by decide +kernel
theorem tyJ6_ok : ∀ k, k < 0 → parseFieldDescriptor (TJ6 k).2.2.1 = some (tyJ6 k) := by decide +kernel
abbrev cJ6_getChars_ba4f3 : ByteArray := prog_26_method_12_code
def yJ6_getChars_ba4f3 : MethodName := ⟨RJ6, "getChars", "(II[B)I"⟩
abbrev cJ6_stringSize_0f7a4 : ByteArray := prog_26_method_13_code
def yJ6_stringSize_0f7a4 : MethodName := ⟨RJ6, "stringSize", "(I)I"⟩
abbrev cJ6_bitCount_0f7a4 : ByteArray := prog_26_method_49_code
def yJ6_bitCount_0f7a4 : MethodName := ⟨RJ6, "bitCount", "(I)I"⟩
def RJ9 : String := "java/lang/Math"
def TJ9 : u_T := fun k => match k with
  | _ => ("", "", "", false)
def tyJ9 : Nat → FieldType := fun k => match k with
  | _ => .int
abbrev wsJ90 : List Cond := u_ws RJ9 TJ9 0
theorem nmJ9 : ∀ a, a < 0 → ∀ b, b < 0 → a ≠ b → (TJ9 a).2.1 ≠ (TJ9 b).2.1 := by decide +kernel
theorem tyJ9_ok : ∀ k, k < 0 → parseFieldDescriptor (TJ9 k).2.2.1 = some (tyJ9 k) := by decide +kernel
abbrev cJ9_max_7cf53 : ByteArray := prog_27_method_65_code
def yJ9_max_7cf53 : MethodName := ⟨RJ9, "max", "(II)I"⟩
abbrev cJ9_min_7cf53 : ByteArray := prog_27_method_69_code
def yJ9_min_7cf53 : MethodName := ⟨RJ9, "min", "(II)I"⟩
def RJxd2413 : String := "java/lang/Number"
def TJxd2413 : u_T := fun k => match k with
  | _ => ("", "", "", false)
def tyJxd2413 : Nat → FieldType := fun k => match k with
  | _ => .int
abbrev wsJxd24130 : List Cond := u_ws RJxd2413 TJxd2413 0
theorem nmJxd2413 : ∀ a, a < 0 → ∀ b, b < 0 → a ≠ b → (TJxd2413 a).2.1 ≠ (TJxd2413 b).2.1 := by decide +kernel
theorem tyJxd2413_ok : ∀ k, k < 0 → parseFieldDescriptor (TJxd2413 k).2.2.1 = some (tyJxd2413 k) := by decide +kernel
def RJ0 : String := "java/lang/String"
def TJ0 : u_T := fun k => match k with
  | 0 => ("java/lang/String", "value", "[B", true)
  | 1 => ("java/lang/String", "coder", "B", true)
  | 2 => ("java/lang/String", "hash", "I", false)
  | _ => ("java/lang/String", "hashIsZero", "Z", false)
def tyJ0 : Nat → FieldType := fun k => match k with
  | 0 => .array .byte
  | 1 => .byte
  | 2 => .int
  | _ => .boolean
abbrev wsJ00 : List Cond := u_ws RJ0 TJ0 4
theorem nmJ0 : ∀ a, a < 4 → ∀ b, b < 4 → a ≠ b → (TJ0 a).2.1 ≠ (TJ0 b).2.1 := by decide +kernel
theorem tyJ0_ok : ∀ k, k < 4 → parseFieldDescriptor (TJ0 k).2.2.1 = some (tyJ0 k) := by decide +kernel
abbrev cJ0_init_81219 : ByteArray := prog_30_method_53_code
def yJ0_init_81219 : MethodName := ⟨RJ0, "<init>", "(Ljava/lang/StringBuilder;)V"⟩
abbrev cJ0_length_8abf5 : ByteArray := prog_30_method_54_code
def yJ0_length_8abf5 : MethodName := ⟨RJ0, "length", "()I"⟩
abbrev cJ0_charAt_5068e : ByteArray := prog_30_method_56_code
def yJ0_charAt_5068e : MethodName := ⟨RJ0, "charAt", "(I)C"⟩
abbrev cJ0_getBytes_840e7 : ByteArray := prog_30_method_147_code
def yJ0_getBytes_840e7 : MethodName := ⟨RJ0, "getBytes", "([BIB)V"⟩
abbrev cJ0_init_db425 : ByteArray := prog_30_method_150_code
def yJ0_init_db425 : MethodName := ⟨RJ0, "<init>", "(Ljava/lang/AbstractStringBuilder;Ljava/lang/Void;)V"⟩
abbrev cJ0_coder_7d493 : ByteArray := prog_30_method_152_code
def yJ0_coder_7d493 : MethodName := ⟨RJ0, "coder", "()B"⟩
abbrev cJ0_isLatin1_aae02 : ByteArray := prog_30_method_154_code
def yJ0_isLatin1_aae02 : MethodName := ⟨RJ0, "isLatin1", "()Z"⟩
abbrev cJ0_checkIndex_df160 : ByteArray := prog_30_method_155_code
def yJ0_checkIndex_df160 : MethodName := ⟨RJ0, "checkIndex", "(II)V"⟩
abbrev cJ0_checkBoundsOffCount_cabcc : ByteArray := prog_30_method_157_code
def yJ0_checkBoundsOffCount_cabcc : MethodName := ⟨RJ0, "checkBoundsOffCount", "(III)I"⟩
abbrev cJ0_checkBoundsBeginEnd_23922 : ByteArray := prog_30_method_158_code
def yJ0_checkBoundsBeginEnd_23922 : MethodName := ⟨RJ0, "checkBoundsBeginEnd", "(III)V"⟩
def RJ4 : String := "java/lang/StringBuilder"
def TJ4 : u_T := fun k => match k with
  | 0 => ("java/lang/AbstractStringBuilder", "value", "[B", false)
  | 1 => ("java/lang/AbstractStringBuilder", "coder", "B", false)
  | 2 => ("java/lang/AbstractStringBuilder", "maybeLatin1", "Z", false)
  | _ => ("java/lang/AbstractStringBuilder", "count", "I", false)
def tyJ4 : Nat → FieldType := fun k => match k with
  | 0 => .array .byte
  | 1 => .byte
  | 2 => .boolean
  | _ => .int
abbrev wsJ40 : List Cond := u_ws RJ4 TJ4 4
theorem nmJ4 : ∀ a, a < 4 → ∀ b, b < 4 → a ≠ b → (TJ4 a).2.1 ≠ (TJ4 b).2.1 := by decide +kernel
theorem tyJ4_ok : ∀ k, k < 4 → parseFieldDescriptor (TJ4 k).2.2.1 = some (tyJ4 k) := by decide +kernel
abbrev cJ4_init_da8c8 : ByteArray := prog_31_method_1_code
def yJ4_init_da8c8 : MethodName := ⟨RJ4, "<init>", "()V"⟩
abbrev cJ4_append_15ec4 : ByteArray := prog_31_method_7_code
def yJ4_append_15ec4 : MethodName := ⟨RJ4, "append", "(Ljava/lang/String;)Ljava/lang/StringBuilder;"⟩
abbrev cJ4_append_cf468 : ByteArray := prog_31_method_14_code
def yJ4_append_cf468 : MethodName := ⟨RJ4, "append", "(C)Ljava/lang/StringBuilder;"⟩
abbrev cJ4_append_bf812 : ByteArray := prog_31_method_15_code
def yJ4_append_bf812 : MethodName := ⟨RJ4, "append", "(I)Ljava/lang/StringBuilder;"⟩
abbrev cJ4_toString_0e30d : ByteArray := prog_31_method_42_code
def yJ4_toString_0e30d : MethodName := ⟨RJ4, "toString", "()Ljava/lang/String;"⟩
abbrev cJ4_setLength_d00df : ByteArray := prog_31_method_89_code
def yJ4_setLength_d00df : MethodName := ⟨RJ4, "setLength", "(I)V"⟩
abbrev cJ4_length_8abf5 : ByteArray := prog_31_method_93_code
def yJ4_length_8abf5 : MethodName := ⟨RJ4, "length", "()I"⟩
def RJx7c733 : String := "java/lang/StringIndexOutOfBoundsException"
def TJx7c733 : u_T := fun k => match k with
  | 0 => ("java/lang/Throwable", "backtrace", "Ljava/lang/Object;", false)
  | 1 => ("java/lang/Throwable", "detailMessage", "Ljava/lang/String;", false)
  | 2 => ("java/lang/Throwable", "cause", "Ljava/lang/Throwable;", false)
  | 3 => ("java/lang/Throwable", "stackTrace", "[Ljava/lang/StackTraceElement;", false)
  | 4 => ("java/lang/Throwable", "depth", "I", false)
  | _ => ("java/lang/Throwable", "suppressedExceptions", "Ljava/util/List;", false)
def tyJx7c733 : Nat → FieldType := fun k => match k with
  | 0 => .object "java/lang/Object"
  | 1 => .object "java/lang/String"
  | 2 => .object "java/lang/Throwable"
  | 3 => .array (.object "java/lang/StackTraceElement")
  | 4 => .int
  | _ => .object "java/util/List"
abbrev wsJx7c7330 : List Cond := u_ws RJx7c733 TJx7c733 6
theorem nmJx7c733 : ∀ a, a < 6 → ∀ b, b < 6 → a ≠ b → (TJx7c733 a).2.1 ≠ (TJx7c733 b).2.1 := by decide +kernel
theorem tyJx7c733_ok : ∀ k, k < 6 → parseFieldDescriptor (TJx7c733 k).2.2.1 = some (tyJx7c733 k) := by decide +kernel
abbrev cJx7c733_init_d00df : ByteArray := prog_32_method_3_code
def yJx7c733_init_d00df : MethodName := ⟨RJx7c733, "<init>", "(I)V"⟩
def RJ1 : String := "java/lang/StringLatin1"
def TJ1 : u_T := fun k => match k with
  | _ => ("", "", "", false)
def tyJ1 : Nat → FieldType := fun k => match k with
  | _ => .int
abbrev wsJ10 : List Cond := u_ws RJ1 TJ1 0
theorem nmJ1 : ∀ a, a < 0 → ∀ b, b < 0 → a ≠ b → (TJ1 a).2.1 ≠ (TJ1 b).2.1 := by decide +kernel
theorem tyJ1_ok : ∀ k, k < 0 → parseFieldDescriptor (TJ1 k).2.2.1 = some (tyJ1 k) := by decide +kernel
abbrev cJ1_charAt_3b067 : ByteArray := prog_33_method_2_code
def yJ1_charAt_3b067 : MethodName := ⟨RJ1, "charAt", "([BI)C"⟩
abbrev cJ1_canEncode_fc78d : ByteArray := prog_33_method_3_code
def yJ1_canEncode_fc78d : MethodName := ⟨RJ1, "canEncode", "(C)Z"⟩
abbrev cJ1_fillNull_b72d1 : ByteArray := prog_33_method_48_code
def yJ1_fillNull_b72d1 : MethodName := ⟨RJ1, "fillNull", "([BII)V"⟩
abbrev cJ1_inflate_0e8fd : ByteArray := prog_33_method_50_code
def yJ1_inflate_0e8fd : MethodName := ⟨RJ1, "inflate", "([BI[BII)V"⟩
def RJ2 : String := "java/lang/StringUTF16"
def TJ2 : u_T := fun k => match k with
  | _ => ("", "", "", false)
def tyJ2 : Nat → FieldType := fun k => match k with
  | _ => .int
abbrev wsJ20 : List Cond := u_ws RJ2 TJ2 0
theorem nmJ2 : ∀ a, a < 0 → ∀ b, b < 0 → a ≠ b → (TJ2 a).2.1 ≠ (TJ2 b).2.1 := by decide +kernel
theorem tyJ2_ok : ∀ k, k < 0 → parseFieldDescriptor (TJ2 k).2.2.1 = some (tyJ2 k) := by decide +kernel
abbrev cJ2_newBytesFor_77867 : ByteArray := prog_34_method_2_code
def yJ2_newBytesFor_77867 : MethodName := ⟨RJ2, "newBytesFor", "(I)[B"⟩
abbrev cJ2_newBytesLength_0f7a4 : ByteArray := prog_34_method_3_code
def yJ2_newBytesLength_0f7a4 : MethodName := ⟨RJ2, "newBytesLength", "(I)I"⟩
abbrev cJ2_putChar_b72d1 : ByteArray := prog_34_method_4_code
def yJ2_putChar_b72d1 : MethodName := ⟨RJ2, "putChar", "([BII)V"⟩
abbrev cJ2_getChar_3b067 : ByteArray := prog_34_method_5_code
def yJ2_getChar_3b067 : MethodName := ⟨RJ2, "getChar", "([BI)C"⟩
abbrev cJ2_length_9d52b : ByteArray := prog_34_method_6_code
def yJ2_length_9d52b : MethodName := ⟨RJ2, "length", "([B)I"⟩
abbrev cJ2_coderFromArrayLen_85cad : ByteArray := prog_34_method_15_code
def yJ2_coderFromArrayLen_85cad : MethodName := ⟨RJ2, "coderFromArrayLen", "([BI)B"⟩
abbrev cJ2_compress_39247 : ByteArray := prog_34_method_17_code
def yJ2_compress_39247 : MethodName := ⟨RJ2, "compress", "([BII)[B"⟩
abbrev cJ2_compress_5af95 : ByteArray := prog_34_method_22_code
def yJ2_compress_5af95 : MethodName := ⟨RJ2, "compress", "([BI[BII)I"⟩
abbrev cJ2_fillNull_b72d1 : ByteArray := prog_34_method_70_code
def yJ2_fillNull_b72d1 : MethodName := ⟨RJ2, "fillNull", "([BII)V"⟩
abbrev cJ2_putCharSB_b72d1 : ByteArray := prog_34_method_71_code
def yJ2_putCharSB_b72d1 : MethodName := ⟨RJ2, "putCharSB", "([BII)V"⟩
abbrev cJ2_getChars_46870 : ByteArray := prog_34_method_77_code
def yJ2_getChars_46870 : MethodName := ⟨RJ2, "getChars", "(III[B)I"⟩
abbrev cJ2_putCharsAt_cd4e5 : ByteArray := prog_34_method_81_code
def yJ2_putCharsAt_cd4e5 : MethodName := ⟨RJ2, "putCharsAt", "([BICCCC)I"⟩
abbrev cJ2_charAt_3b067 : ByteArray := prog_34_method_83_code
def yJ2_charAt_3b067 : MethodName := ⟨RJ2, "charAt", "([BI)C"⟩
abbrev cJ2_inflate_0e8fd : ByteArray := prog_34_method_86_code
def yJ2_inflate_0e8fd : MethodName := ⟨RJ2, "inflate", "([BI[BII)V"⟩
abbrev cJ2_getChars_ba4f3 : ByteArray := prog_34_method_89_code
def yJ2_getChars_ba4f3 : MethodName := ⟨RJ2, "getChars", "(II[B)I"⟩
abbrev cJ2_checkIndex_2214a : ByteArray := prog_34_method_91_code
def yJ2_checkIndex_2214a : MethodName := ⟨RJ2, "checkIndex", "(I[B)V"⟩
abbrev cJ2_checkBoundsBeginEnd_d044e : ByteArray := prog_34_method_93_code
def yJ2_checkBoundsBeginEnd_d044e : MethodName := ⟨RJ2, "checkBoundsBeginEnd", "(II[B)V"⟩
abbrev cJ2_checkBoundsOffCount_d044e : ByteArray := prog_34_method_94_code
def yJ2_checkBoundsOffCount_d044e : MethodName := ⟨RJ2, "checkBoundsOffCount", "(II[B)V"⟩
def RJ10 : String := "java/lang/System"
def TJ10 : u_T := fun k => match k with
  | _ => ("", "", "", false)
def tyJ10 : Nat → FieldType := fun k => match k with
  | _ => .int
abbrev wsJ100 : List Cond := u_ws RJ10 TJ10 0
theorem nmJ10 : ∀ a, a < 0 → ∀ b, b < 0 → a ≠ b → (TJ10 a).2.1 ≠ (TJ10 b).2.1 := by decide +kernel
theorem tyJ10_ok : ∀ k, k < 0 → parseFieldDescriptor (TJ10 k).2.2.1 = some (tyJ10 k) := by decide +kernel
def RJxfd54e : String := "java/lang/constant/Constable"
def TJxfd54e : u_T := fun k => match k with
  | _ => ("", "", "", false)
def tyJxfd54e : Nat → FieldType := fun k => match k with
  | _ => .int
abbrev wsJxfd54e0 : List Cond := u_ws RJxfd54e TJxfd54e 0
theorem nmJxfd54e : ∀ a, a < 0 → ∀ b, b < 0 → a ≠ b → (TJxfd54e a).2.1 ≠ (TJxfd54e b).2.1 := by decide +kernel
theorem tyJxfd54e_ok : ∀ k, k < 0 → parseFieldDescriptor (TJxfd54e k).2.2.1 = some (tyJxfd54e k) := by decide +kernel
def RJx3cf43 : String := "java/lang/constant/ConstantDesc"
def TJx3cf43 : u_T := fun k => match k with
  | _ => ("", "", "", false)
def tyJx3cf43 : Nat → FieldType := fun k => match k with
  | _ => .int
abbrev wsJx3cf430 : List Cond := u_ws RJx3cf43 TJx3cf43 0
theorem nmJx3cf43 : ∀ a, a < 0 → ∀ b, b < 0 → a ≠ b → (TJx3cf43 a).2.1 ≠ (TJx3cf43 b).2.1 := by decide +kernel
theorem tyJx3cf43_ok : ∀ k, k < 0 → parseFieldDescriptor (TJx3cf43 k).2.2.1 = some (tyJx3cf43 k) := by decide +kernel
def RJ7 : String := "java/util/Arrays"
def TJ7 : u_T := fun k => match k with
  | _ => ("", "", "", false)
def tyJ7 : Nat → FieldType := fun k => match k with
  | _ => .int
abbrev wsJ70 : List Cond := u_ws RJ7 TJ7 0
theorem nmJ7 : ∀ a, a < 0 → ∀ b, b < 0 → a ≠ b → (TJ7 a).2.1 ≠ (TJ7 b).2.1 := by decide +kernel
theorem tyJ7_ok : ∀ k, k < 0 → parseFieldDescriptor (TJ7 k).2.2.1 = some (tyJ7 k) := by decide +kernel
abbrev cJ7_rangeCheck_23922 : ByteArray := prog_40_method_30_code
def yJ7_rangeCheck_23922 : MethodName := ⟨RJ7, "rangeCheck", "(III)V"⟩
abbrev cJ7_fill_53178 : ByteArray := prog_40_method_103_code
def yJ7_fill_53178 : MethodName := ⟨RJ7, "fill", "([II)V"⟩
abbrev cJ7_fill_eb02e : ByteArray := prog_40_method_110_code
def yJ7_fill_eb02e : MethodName := ⟨RJ7, "fill", "([BIIB)V"⟩
abbrev cJ7_copyOf_9075b : ByteArray := prog_40_method_121_code
def yJ7_copyOf_9075b : MethodName := ⟨RJ7, "copyOf", "([BI)[B"⟩
abbrev cJ7_checkLength_df160 : ByteArray := prog_40_method_131_code
def yJ7_checkLength_df160 : MethodName := ⟨RJ7, "checkLength", "(II)V"⟩
abbrev cJ7_copyOfRange_39247 : ByteArray := prog_40_method_132_code
def yJ7_copyOfRange_39247 : MethodName := ⟨RJ7, "copyOfRange", "([BII)[B"⟩
abbrev cJ7_copyOfRangeByte_39247 : ByteArray := prog_40_method_133_code
def yJ7_copyOfRangeByte_39247 : MethodName := ⟨RJ7, "copyOfRangeByte", "([BII)[B"⟩
def RJ8 : String := "jdk/internal/util/ArraysSupport"
def TJ8 : u_T := fun k => match k with
  | _ => ("", "", "", false)
def tyJ8 : Nat → FieldType := fun k => match k with
  | _ => .int
abbrev wsJ80 : List Cond := u_ws RJ8 TJ8 0
theorem nmJ8 : ∀ a, a < 0 → ∀ b, b < 0 → a ≠ b → (TJ8 a).2.1 ≠ (TJ8 b).2.1 := by decide +kernel
theorem tyJ8_ok : ∀ k, k < 0 → parseFieldDescriptor (TJ8 k).2.2.1 = some (tyJ8 k) := by decide +kernel
abbrev cJ8_newLength_cabcc : ByteArray := prog_42_method_27_code
def yJ8_newLength_cabcc : MethodName := ⟨RJ8, "newLength", "(III)I"⟩
abbrev cJ8_hugeLength_7cf53 : ByteArray := prog_42_method_28_code
def yJ8_hugeLength_7cf53 : MethodName := ⟨RJ8, "hugeLength", "(II)I"⟩
def RJ3 : String := "jdk/internal/util/Preconditions"
def TJ3 : u_T := fun k => match k with
  | _ => ("", "", "", false)
def tyJ3 : Nat → FieldType := fun k => match k with
  | _ => .int
abbrev wsJ30 : List Cond := u_ws RJ3 TJ3 0
theorem nmJ3 : ∀ a, a < 0 → ∀ b, b < 0 → a ≠ b → (TJ3 a).2.1 ≠ (TJ3 b).2.1 := by decide +kernel
theorem tyJ3_ok : ∀ k, k < 0 → parseFieldDescriptor (TJ3 k).2.2.1 = some (tyJ3 k) := by decide +kernel
abbrev cJ3_checkIndex_8e157 : ByteArray := prog_43_method_11_code
def yJ3_checkIndex_8e157 : MethodName := ⟨RJ3, "checkIndex", "(IILjava/util/function/BiFunction;)I"⟩
abbrev cJ3_checkFromToIndex_8c36e : ByteArray := prog_43_method_12_code
def yJ3_checkFromToIndex_8c36e : MethodName := ⟨RJ3, "checkFromToIndex", "(IIILjava/util/function/BiFunction;)I"⟩
abbrev cJ3_checkFromIndexSize_8c36e : ByteArray := prog_43_method_13_code
def yJ3_checkFromIndexSize_8c36e : MethodName := ⟨RJ3, "checkFromIndexSize", "(IIILjava/util/function/BiFunction;)I"⟩
def RL : String := "InterlockingBoxLaw"
abbrev cL_cell : ByteArray := method_2_code
def yL_cell : MethodName := ⟨RL, "cell", "([II)I"⟩
abbrev cL_pick : ByteArray := method_3_code
def yL_pick : MethodName := ⟨RL, "pick", "([III)I"⟩
abbrev cL_addBlock : ByteArray := method_4_code
def yL_addBlock : MethodName := ⟨RL, "addBlock", "(LInterlockingBox;I)I"⟩
abbrev cL_addPoint : ByteArray := method_5_code
def yL_addPoint : MethodName := ⟨RL, "addPoint", "(LInterlockingBox;III)I"⟩
abbrev cL_addLink : ByteArray := method_6_code
def yL_addLink : MethodName := ⟨RL, "addLink", "(LInterlockingBox;II)I"⟩
abbrev cL_shut : ByteArray := method_7_code
def yL_shut : MethodName := ⟨RL, "shut", "(LInterlockingBox;I)I"⟩
abbrev cL_open : ByteArray := method_8_code
def yL_open : MethodName := ⟨RL, "open", "(LInterlockingBox;I)I"⟩
abbrev cL_throwPoint : ByteArray := method_9_code
def yL_throwPoint : MethodName := ⟨RL, "throwPoint", "(LInterlockingBox;I)I"⟩
abbrev cL_addTrain : ByteArray := method_10_code
def yL_addTrain : MethodName := ⟨RL, "addTrain", "(LInterlockingBox;II)I"⟩
abbrev cL_setRoute : ByteArray := method_11_code
def yL_setRoute : MethodName := ⟨RL, "setRoute", "(LInterlockingBox;I)I"⟩
abbrev cL_releaseRoute : ByteArray := method_12_code
def yL_releaseRoute : MethodName := ⟨RL, "releaseRoute", "(LInterlockingBox;I)I"⟩
abbrev cL_pass : ByteArray := method_13_code
def yL_pass : MethodName := ⟨RL, "pass", "(LInterlockingBox;I)I"⟩
abbrev cL_blockLength : ByteArray := method_14_code
def yL_blockLength : MethodName := ⟨RL, "blockLength", "(LInterlockingBox;I)I"⟩
abbrev cL_blockState : ByteArray := method_15_code
def yL_blockState : MethodName := ⟨RL, "blockState", "(LInterlockingBox;I)I"⟩
abbrev cL_trainAt : ByteArray := method_16_code
def yL_trainAt : MethodName := ⟨RL, "trainAt", "(LInterlockingBox;I)I"⟩
abbrev cL_liesLeft : ByteArray := method_17_code
def yL_liesLeft : MethodName := ⟨RL, "liesLeft", "(LInterlockingBox;I)I"⟩
abbrev cL_lockedBy : ByteArray := method_18_code
def yL_lockedBy : MethodName := ⟨RL, "lockedBy", "(LInterlockingBox;I)I"⟩
abbrev cL_routeLength : ByteArray := method_19_code
def yL_routeLength : MethodName := ⟨RL, "routeLength", "(LInterlockingBox;II)I"⟩
abbrev cL_routeLengthByPaths : ByteArray := method_20_code
def yL_routeLengthByPaths : MethodName := ⟨RL, "routeLengthByPaths", "(LInterlockingBox;II)I"⟩
abbrev cL_routeBlock : ByteArray := method_21_code
def yL_routeBlock : MethodName := ⟨RL, "routeBlock", "(LInterlockingBox;III)I"⟩
abbrev cL_paths : ByteArray := method_22_code
def yL_paths : MethodName := ⟨RL, "paths", "(LInterlockingBox;II)I"⟩
abbrev cL_blockOf : ByteArray := method_23_code
def yL_blockOf : MethodName := ⟨RL, "blockOf", "(LInterlockingBox;I)I"⟩
abbrev cL_destination : ByteArray := method_24_code
def yL_destination : MethodName := ⟨RL, "destination", "(LInterlockingBox;I)I"⟩
abbrev cL_hasRoute : ByteArray := method_25_code
def yL_hasRoute : MethodName := ⟨RL, "hasRoute", "(LInterlockingBox;I)I"⟩
abbrev cL_isClear : ByteArray := method_26_code
def yL_isClear : MethodName := ⟨RL, "isClear", "(LInterlockingBox;I)I"⟩
abbrev cL_minutesUntilNext : ByteArray := method_27_code
def yL_minutesUntilNext : MethodName := ⟨RL, "minutesUntilNext", "(LInterlockingBox;I)I"⟩
abbrev cL_minutesUntilArrival : ByteArray := method_28_code
def yL_minutesUntilArrival : MethodName := ⟨RL, "minutesUntilArrival", "(LInterlockingBox;I)I"⟩
abbrev cL_minutesUntilArrivalByPassing : ByteArray := method_29_code
def yL_minutesUntilArrivalByPassing : MethodName := ⟨RL, "minutesUntilArrivalByPassing", "(LInterlockingBox;I)I"⟩
abbrev cL_delay : ByteArray := method_30_code
def yL_delay : MethodName := ⟨RL, "delay", "(LInterlockingBox;I)I"⟩
abbrev cL_queued : ByteArray := method_31_code
def yL_queued : MethodName := ⟨RL, "queued", "(LInterlockingBox;I)I"⟩
abbrev cL_waitsFor : ByteArray := method_32_code
def yL_waitsFor : MethodName := ⟨RL, "waitsFor", "(LInterlockingBox;II)I"⟩
abbrev cL_conflict : ByteArray := method_33_code
def yL_conflict : MethodName := ⟨RL, "conflict", "(LInterlockingBox;II)I"⟩
abbrev cL_refusalReason : ByteArray := method_34_code
def yL_refusalReason : MethodName := ⟨RL, "refusalReason", "(LInterlockingBox;)I"⟩
abbrev cL_refusalBlock : ByteArray := method_35_code
def yL_refusalBlock : MethodName := ⟨RL, "refusalBlock", "(LInterlockingBox;)I"⟩
abbrev cL_meanDelay : ByteArray := method_36_code
def yL_meanDelay : MethodName := ⟨RL, "meanDelay", "(LInterlockingBox;)D"⟩
abbrev cL_usedShare : ByteArray := method_37_code
def yL_usedShare : MethodName := ⟨RL, "usedShare", "(LInterlockingBox;)F"⟩
abbrev cL_writeTrain : ByteArray := method_38_code
def yL_writeTrain : MethodName := ⟨RL, "writeTrain", "(LInterlockingBox;I)I"⟩
abbrev cL_type : ByteArray := method_40_code
def yL_type : MethodName := ⟨RL, "type", "(LInterlockingBox;C)I"⟩
abbrev cL_run : ByteArray := method_41_code
def yL_run : MethodName := ⟨RL, "run", "(LInterlockingBox;)I"⟩
abbrev cL_undo : ByteArray := method_44_code
def yL_undo : MethodName := ⟨RL, "undo", "(LInterlockingBox;)I"⟩
abbrev cL_restore : ByteArray := method_45_code
def yL_restore : MethodName := ⟨RL, "restore", "(LInterlockingBox;)I"⟩
abbrev cL_runs : ByteArray := method_46_code
def yL_runs : MethodName := ⟨RL, "runs", "(LInterlockingBox;Ljava/lang/String;)I"⟩
abbrev cL_law : ByteArray := code
def yL_law : MethodName := ⟨RL, "law", "([I)Z"⟩
abbrev cL_trainOf : ByteArray := method_50_code
def yL_trainOf : MethodName := ⟨RL, "trainOf", "(LInterlockingBox;IIZ)I"⟩
abbrev cL_waiting : ByteArray := method_51_code
def yL_waiting : MethodName := ⟨RL, "waiting", "(LInterlockingBox;)I"⟩
abbrev cL_does : ByteArray := method_52_code
def yL_does : MethodName := ⟨RL, "does", "([IIILInterlockingBox;II)I"⟩
abbrev cL_sum : ByteArray := method_53_code
def yL_sum : MethodName := ⟨RL, "sum", "(LInterlockingBox;)J"⟩
abbrev cL_isRoute : ByteArray := method_54_code
def yL_isRoute : MethodName := ⟨RL, "isRoute", "(LInterlockingBox;II)Z"⟩
abbrev cL_isTrain : ByteArray := method_55_code
def yL_isTrain : MethodName := ⟨RL, "isTrain", "(LInterlockingBox;II)Z"⟩
abbrev cL_isWhole : ByteArray := method_56_code
def yL_isWhole : MethodName := ⟨RL, "isWhole", "(LInterlockingBox;[IIIZ)Z"⟩
abbrev cL_isKept : ByteArray := method_57_code
def yL_isKept : MethodName := ⟨RL, "isKept", "(LInterlockingBox;[JI)Z"⟩
end
section
abbrev CL : List vw_C := [(RX9, TX9, 12), (RX2, TX2, 3), (RX4, TX4, 12), (RX5, TX5, 6), (RX6, TX6, 7), (RX7, TX7, 9), (RX8, TX8, 6), (RJ0, TJ0, 4), (RJ4, TJ4, 4)]
/-- of each kind of object its fields: 0 a number, 1 a reference, 2 a long -/
def fc (ci : Nat) : List Nat := match ci with
  | 0 => [1, 1, 1, 1, 1, 1, 1, 0, 0, 0, 0, 0]
  | 1 => [1, 0, 0]
  | 2 => [0, 0, 0, 0, 0, 1, 1, 1, 1, 1, 1, 1]
  | 3 => [1, 0, 1, 1, 0, 0]
  | 4 => [0, 1, 1, 1, 0, 0, 0]
  | 5 => [1, 1, 1, 0, 0, 0, 0, 0, 2]
  | 6 => [0, 0, 0, 0, 0, 0]
  | 7 => [1, 0, 0, 0]
  | 8 => [1, 0, 0, 0]
  | 19 => [1, 0]
  | 20 => [1, 0]
  | _ => []
/-- the component types of the arrays -/
def ty_ (t : Nat) : FieldType := match t with
  | 0 => .int
  | 1 => .long
  | 2 => .double
  | 3 => .byte
  | 4 => .char
  | 5 => .object RX7
  | 6 => .object RX8
  | 7 => .object RX1
  | _ => .array .int
/-- objects that were there before the run: their names, and which fields are read -/
def sNm (k : Nat) : String := if k = 20 then RJ0 else RX1
def sFd (k : Nat) : List (String × String × String) := if k = 20 then [("java/lang/String", "value", "[B"), ("java/lang/String", "coder", "B")] else [("InterlockingBox$Command", "form", "Ljava/lang/String;"), ("java/lang/Enum", "ordinal", "I")]
def zsl : List (String × String × String × Nat × Int32 × Nat) := [("InterlockingBox", "COMMANDS", "[LInterlockingBox$Command;", 1, 0, 1), ("InterlockingBox$1", "$SwitchMap$InterlockingBox$Command", "[I", 1, 0, 13), ("InterlockingBox$Command", "WAIT", "LInterlockingBox$Command;", 1, 0, 11), ("java/lang/String", "COMPACT_STRINGS", "Z", 0, 1, 0), ("java/lang/Integer", "DigitTens", "[B", 1, 0, 14), ("java/lang/Integer", "DigitOnes", "[B", 1, 0, 15)]
/-- the String constants that are loaded: class, entry, text, cell -/
def stl : List (String × Nat × String × Nat) := [("InterlockingBoxLaw", 278, "wait ", 38), ("InterlockingBoxLaw", 287, ";set ", 40), ("InterlockingBoxLaw", 293, ";free ", 42), ("InterlockingBoxLaw", 295, ";shut ", 44), ("InterlockingBoxLaw", 297, ";", 46)]
/-- the texts of exceptions -/
def mgl : List (String × Nat × String) := [("InterlockingBox", 390, "no such block"), ("InterlockingBox", 163, "there is no route"), ("InterlockingBox", 381, "no such train"), ("InterlockingBox", 397, "the train has no set route"), ("InterlockingBox", 227, "the queue has no such position"), ("InterlockingBox", 261, "no route was refused"), ("InterlockingBox", 263, "no route was refused for a block"), ("InterlockingBox", 377, "no such block or point"), ("InterlockingBox", 379, "out of range, or not different"), ("InterlockingBox", 383, "the route cannot be set"), ("InterlockingBox", 385, "not in this state"), ("InterlockingBox", 326, "the program buffer is full"), ("InterlockingBox", 340, "not a program"), ("InterlockingBox", 353, "a command failed"), ("InterlockingBox", 133, "no train occupies or has reserved the block"), ("InterlockingBox", 395, "no such point"), ("InterlockingBox", 148, "the point is not locked"), ("InterlockingBox", 246, "a train and itself"), ("InterlockingBox", 168, "the route has no such position"), ("InterlockingBox", 277, "no train has come"), ("InterlockingBox", 280, "there are no blocks"), ("InterlockingBox", 363, "no change can be undone"), ("InterlockingBox", 366, "no state was saved")]
/-- accesses between nest mates: the words of the tables that are kept by their own laws -/
def nfl : List (String × Nat × String × String × String × String) := [("InterlockingBox", 114, "InterlockingBox$Line", "blocks", "I", "InterlockingBox"), ("InterlockingBox", 173, "InterlockingBox$State", "present", "I", "InterlockingBox"), ("InterlockingBox", 183, "InterlockingBox$Train", "block", "I", "InterlockingBox"), ("InterlockingBox", 188, "InterlockingBox$Train", "destination", "I", "InterlockingBox"), ("InterlockingBox", 202, "InterlockingBox$Train", "nextMinute", "I", "InterlockingBox"), ("InterlockingBox", 205, "InterlockingBox$State", "time", "I", "InterlockingBox"), ("InterlockingBox", 212, "InterlockingBox$Train", "number", "I", "InterlockingBox"), ("InterlockingBox", 221, "InterlockingBox$Train", "delay", "I", "InterlockingBox"), ("InterlockingBox", 265, "InterlockingBox$State", "gone", "I", "InterlockingBox"), ("InterlockingBox", 268, "InterlockingBox$State", "allDelays", "J", "InterlockingBox"), ("InterlockingBox", 272, "InterlockingBox$State", "come", "I", "InterlockingBox"), ("InterlockingBox", 329, "InterlockingBox$Program", "length", "I", "InterlockingBox"), ("InterlockingBox", 337, "InterlockingBox$Program", "stop", "I", "InterlockingBox"), ("InterlockingBox", 342, "InterlockingBox$Program", "count", "I", "InterlockingBox"), ("InterlockingBox", 365, "InterlockingBox$History", "count", "I", "InterlockingBox"), ("InterlockingBox", 72, "InterlockingBox$State", "line", "LInterlockingBox$Line;", "InterlockingBox"), ("InterlockingBox$Invariants", 100, "InterlockingBox$State", "gone", "I", "InterlockingBox"), ("InterlockingBox$Invariants", 103, "InterlockingBox$State", "allDelays", "J", "InterlockingBox"), ("InterlockingBox$Invariants", 107, "InterlockingBox$Train", "reserved", "I", "InterlockingBox"), ("InterlockingBox$Invariants", 114, "InterlockingBox$Train", "nextMinute", "I", "InterlockingBox"), ("InterlockingBox$Invariants", 117, "InterlockingBox$State", "time", "I", "InterlockingBox"), ("InterlockingBox$Invariants", 131, "InterlockingBox$State", "waiting", "I", "InterlockingBox"), ("InterlockingBox$Invariants", 34, "InterlockingBox$Line", "blocks", "I", "InterlockingBox"), ("InterlockingBox$Invariants", 52, "InterlockingBox$Line", "points", "I", "InterlockingBox"), ("InterlockingBox$Invariants", 64, "InterlockingBox$Line", "links", "I", "InterlockingBox"), ("InterlockingBox$Invariants", 67, "InterlockingBox$Line", "stemsToRight", "I", "InterlockingBox"), ("InterlockingBox$Invariants", 70, "InterlockingBox$Line", "shut", "I", "InterlockingBox"), ("InterlockingBox$Invariants", 73, "InterlockingBox$State", "present", "I", "InterlockingBox"), ("InterlockingBox$Invariants", 76, "InterlockingBox$State", "trains", "[LInterlockingBox$Train;", "InterlockingBox"), ("InterlockingBox$Invariants", 80, "InterlockingBox$Train", "block", "I", "InterlockingBox"), ("InterlockingBox$Invariants", 88, "InterlockingBox$Train", "destination", "I", "InterlockingBox"), ("InterlockingBox$Invariants", 9, "InterlockingBox$State", "line", "LInterlockingBox$Line;", "InterlockingBox"), ("InterlockingBox$Invariants", 91, "InterlockingBox$Train", "number", "I", "InterlockingBox"), ("InterlockingBox$Invariants", 94, "InterlockingBox$Train", "delay", "I", "InterlockingBox"), ("InterlockingBox$Invariants", 97, "InterlockingBox$State", "come", "I", "InterlockingBox"), ("InterlockingBox$Program", 44, "InterlockingBox", "COMMANDS", "[LInterlockingBox$Command;", "InterlockingBox"), ("InterlockingBox$Program", 47, "InterlockingBox$Command", "form", "Ljava/lang/String;", "InterlockingBox"), ("InterlockingBox$State", 119, "InterlockingBox$Train", "block", "I", "InterlockingBox"), ("InterlockingBox$State", 122, "InterlockingBox$Train", "destination", "I", "InterlockingBox"), ("InterlockingBox$State", 163, "InterlockingBox$Train", "nextMinute", "I", "InterlockingBox"), ("InterlockingBox$State", 178, "InterlockingBox$Train", "delay", "I", "InterlockingBox"), ("InterlockingBox$State", 62, "InterlockingBox$Train", "number", "I", "InterlockingBox"), ("InterlockingBox$State", 81, "InterlockingBox$Train", "reserved", "I", "InterlockingBox"), ("InterlockingBox$State", 84, "InterlockingBox$Line", "shut", "I", "InterlockingBox")]
def nml : List (String × Nat × MethodName × String) := [("InterlockingBox", 31, ⟨"InterlockingBox$Relation", "<init>", "()V"⟩, "InterlockingBox"), ("InterlockingBox$Invariants", 61, ⟨"InterlockingBox", "contains", "(II)Z"⟩, "InterlockingBox"), ("InterlockingBox$Line", 68, ⟨"InterlockingBox", "contains", "(II)Z"⟩, "InterlockingBox"), ("InterlockingBox$Relation", 57, ⟨"InterlockingBox", "contains", "(II)Z"⟩, "InterlockingBox"), ("InterlockingBox$State", 11, ⟨"InterlockingBox$Line", "<init>", "()V"⟩, "InterlockingBox"), ("InterlockingBox$State", 48, ⟨"InterlockingBox$Train", "<init>", "()V"⟩, "InterlockingBox"), ("InterlockingBox$State", 69, ⟨"InterlockingBox", "contains", "(II)Z"⟩, "InterlockingBox"), ("InterlockingBox$Train", 36, ⟨"InterlockingBox", "contains", "(II)Z"⟩, "InterlockingBox")]
def cal : List (String × String) := [("java/lang/ArithmeticException", "java/lang/ArithmeticException"), ("java/lang/ArrayIndexOutOfBoundsException", "java/lang/ArrayIndexOutOfBoundsException"), ("java/lang/ArrayIndexOutOfBoundsException", "java/lang/IndexOutOfBoundsException"), ("java/lang/IllegalArgumentException", "java/lang/IllegalArgumentException"), ("java/lang/IllegalStateException", "java/lang/IllegalStateException"), ("java/lang/IndexOutOfBoundsException", "java/lang/IndexOutOfBoundsException"), ("java/lang/StringIndexOutOfBoundsException", "java/lang/IndexOutOfBoundsException"), ("java/lang/UnsupportedOperationException", "java/lang/UnsupportedOperationException"), ("java/util/NoSuchElementException", "java/util/NoSuchElementException")]
/-- kinds of exceptions that are not of one another -/
def ncl : List (String × String) := [("java/lang/ArithmeticException", "java/lang/IllegalArgumentException"), ("java/lang/ArithmeticException", "java/lang/IllegalStateException"), ("java/lang/ArithmeticException", "java/lang/IndexOutOfBoundsException"), ("java/lang/ArithmeticException", "java/lang/UnsupportedOperationException"), ("java/lang/ArithmeticException", "java/util/NoSuchElementException"), ("java/lang/IllegalArgumentException", "java/lang/ArithmeticException"), ("java/lang/IllegalArgumentException", "java/lang/IllegalStateException"), ("java/lang/IllegalArgumentException", "java/lang/IndexOutOfBoundsException"), ("java/lang/IllegalArgumentException", "java/lang/UnsupportedOperationException"), ("java/lang/IllegalArgumentException", "java/util/NoSuchElementException"), ("java/lang/IllegalStateException", "java/lang/ArithmeticException"), ("java/lang/IllegalStateException", "java/lang/IllegalArgumentException"), ("java/lang/IllegalStateException", "java/lang/IndexOutOfBoundsException"), ("java/lang/IllegalStateException", "java/lang/UnsupportedOperationException"), ("java/lang/IllegalStateException", "java/util/NoSuchElementException"), ("java/lang/IndexOutOfBoundsException", "java/lang/ArithmeticException"), ("java/lang/IndexOutOfBoundsException", "java/lang/IllegalArgumentException"), ("java/lang/IndexOutOfBoundsException", "java/lang/IllegalStateException"), ("java/lang/IndexOutOfBoundsException", "java/lang/UnsupportedOperationException"), ("java/lang/IndexOutOfBoundsException", "java/util/NoSuchElementException"), ("java/lang/UnsupportedOperationException", "java/lang/ArithmeticException"), ("java/lang/UnsupportedOperationException", "java/lang/IllegalArgumentException"), ("java/lang/UnsupportedOperationException", "java/lang/IllegalStateException"), ("java/lang/UnsupportedOperationException", "java/lang/IndexOutOfBoundsException"), ("java/lang/UnsupportedOperationException", "java/util/NoSuchElementException"), ("java/util/NoSuchElementException", "java/lang/ArithmeticException"), ("java/util/NoSuchElementException", "java/lang/IllegalArgumentException"), ("java/util/NoSuchElementException", "java/lang/IllegalStateException"), ("java/util/NoSuchElementException", "java/lang/IndexOutOfBoundsException"), ("java/util/NoSuchElementException", "java/lang/UnsupportedOperationException")]
/-- methods of exceptions that declare what they declare (kept by a law of their own) -/
def dcl : List MethodName := [⟨"java/lang/Enum", "ordinal", "()I"⟩, ⟨"java/lang/Exception", "<init>", "()V"⟩, ⟨"java/lang/Exception", "<init>", "(Ljava/lang/String;)V"⟩, ⟨"java/lang/IndexOutOfBoundsException", "<init>", "()V"⟩, ⟨"java/lang/IndexOutOfBoundsException", "<init>", "(Ljava/lang/String;)V"⟩, ⟨"java/lang/RuntimeException", "<init>", "()V"⟩, ⟨"java/lang/RuntimeException", "<init>", "(Ljava/lang/String;)V"⟩, ⟨"java/lang/Throwable", "<init>", "()V"⟩, ⟨"java/lang/Throwable", "<init>", "(Ljava/lang/String;)V"⟩]
def aol : List FieldType := [.object RX7, .object RX8, .object RX1, .array .int]
/-! THE ABSTRACT HEAP: flat, typed: shapes, numbers, references, longs by (cell, place). Cells 1 .. nZ - 1 were there before the run (read alone), from nZ on those that the run has made. A reference is a cell's number; 0 is null. Shape (c + 1, 0): an object of CL's c-th kind; (20, 0) a String, (21, 0) a Command; (100 + t, n): an array of n places of type ty_ t. -/
abbrev AH : Type := (Nat → Nat × Nat) × (Nat → Nat → Int32) × (Nat → Nat → Nat) × (Nat → Nat → Int64) × Nat
def mS (h : AH) (a : Nat) : Nat × Nat := h.1 a
def mI (h : AH) (a j : Nat) : Int32 := h.2.1 a j
def mR (h : AH) (a j : Nat) : Nat := h.2.2.1 a j
def mL (h : AH) (a j : Nat) : Int64 := h.2.2.2.1 a j
def mN (h : AH) : Nat := h.2.2.2.2
def up2 {α : Type} (f : Nat → Nat → α) (a j : Nat) (v : α) : Nat → Nat → α := fun b i => if b = a ∧ i = j then v else f b i
def uI (h : AH) (a j : Nat) (v : Int32) : AH := (h.1, up2 h.2.1 a j v, h.2.2)
def uR (h : AH) (a j : Nat) (v : Nat) : AH := (h.1, h.2.1, up2 h.2.2.1 a j v, h.2.2.2)
def uL (h : AH) (a j : Nat) (v : Int64) : AH := (h.1, h.2.1, h.2.2.1, up2 h.2.2.2.1 a j v, h.2.2.2.2)
def nw (h : AH) (k n : Nat) : AH := (fun a => if a = mN h then (k, n) else h.1 a, fun a j => if a = mN h then 0 else h.2.1 a j, fun a j => if a = mN h then 0 else h.2.2.1 a j, fun a j => if a = mN h then 0 else h.2.2.2.1 a j, mN h + 1)
abbrev nZ : Nat := 64
theorem mS_uI (h : AH) (a j : Nat) (v : Int32) : mS (uI h a j v) = mS h := rfl
theorem mS_uR (h : AH) (a j : Nat) (v : Nat) : mS (uR h a j v) = mS h := rfl
theorem mS_uL (h : AH) (a j : Nat) (v : Int64) : mS (uL h a j v) = mS h := rfl
theorem mN_uI (h : AH) (a j : Nat) (v : Int32) : mN (uI h a j v) = mN h := rfl
theorem mN_uR (h : AH) (a j : Nat) (v : Nat) : mN (uR h a j v) = mN h := rfl
theorem mN_uL (h : AH) (a j : Nat) (v : Int64) : mN (uL h a j v) = mN h := rfl
theorem mI_uR (h : AH) (a j : Nat) (v : Nat) : mI (uR h a j v) = mI h := rfl
theorem mI_uL (h : AH) (a j : Nat) (v : Int64) : mI (uL h a j v) = mI h := rfl
theorem mR_uI (h : AH) (a j : Nat) (v : Int32) : mR (uI h a j v) = mR h := rfl
theorem mR_uL (h : AH) (a j : Nat) (v : Int64) : mR (uL h a j v) = mR h := rfl
theorem mL_uI (h : AH) (a j : Nat) (v : Int32) : mL (uI h a j v) = mL h := rfl
theorem mL_uR (h : AH) (a j : Nat) (v : Nat) : mL (uR h a j v) = mL h := rfl
theorem mI_uI (h : AH) (a j : Nat) (v : Int32) (b i : Nat) : mI (uI h a j v) b i = if b = a ∧ i = j then v else mI h b i := rfl
theorem mR_uR (h : AH) (a j : Nat) (v : Nat) (b i : Nat) : mR (uR h a j v) b i = if b = a ∧ i = j then v else mR h b i := rfl
theorem mL_uL (h : AH) (a j : Nat) (v : Int64) (b i : Nat) : mL (uL h a j v) b i = if b = a ∧ i = j then v else mL h b i := rfl
theorem mS_nw (h : AH) (k n b : Nat) : mS (nw h k n) b = if b = mN h then (k, n) else mS h b := rfl
theorem mI_nw (h : AH) (k n b i : Nat) : mI (nw h k n) b i = if b = mN h then 0 else mI h b i := rfl
theorem mR_nw (h : AH) (k n b i : Nat) : mR (nw h k n) b i = if b = mN h then 0 else mR h b i := rfl
theorem mL_nw (h : AH) (k n b i : Nat) : mL (nw h k n) b i = if b = mN h then 0 else mL h b i := rfl
theorem mN_nw (h : AH) (k n : Nat) : mN (nw h k n) = mN h + 1 := rfl
/-- an abstract value as the machine has it -/
def cv (ad : Nat → Nat) (v : Value) : Value := match v with
  | .ref a => if a = 0 then .null else .ref (ad a)
  | w => w
def rf (ad : Nat → Nat) (k : Nat) : Option Nat := if k = 0 then none else some (ad k)
theorem cv_rf (ad : Nat → Nat) (k : Nat) : cv ad (.ref k) = va_rf (rf ad k) := by
  unfold cv rf
  by_cases h : k = 0 <;> simp [h, va_rf]
theorem cv_cat (ad : Nat → Nat) (v : Value) : (cv ad v).category = v.category := by
  cases v <;> simp only [cv] <;> (try split) <;> simp [Value.category]
def vok (h : AH) (v : Value) : Prop := match v with
  | .ref a => a < mN h
  | .null => False
  | _ => True
def fv (ad : Nat → Nat) (h : AH) (a j c : Nat) : Value := match c with
  | 0 => .int (mI h a j)
  | 1 => cv ad (.ref (mR h a j))
  | _ => .long (mL h a j)
def fs_ (ad : Nat → Nat) (h : AH) (a ci : Nat) : List Value := (fc ci).mapIdx (fun j c => fv ad h a j c)
def ar_ (ad : Nat → Nat) (h : AH) (a t n : Nat) : vp_A := (n, if t = 1 then .inr (.inl (mL h a)) else if t = 2 then .inr (.inr (.inr (.inl (fun i => (mL h a i).toUInt64)))) else if 5 ≤ t then .inr (.inr (.inr (.inr (fun i => rf ad (mR h a i))))) else .inl (mI h a))
def ce_ (tc : Nat → ClassId) (ad : Nat → Nat) (h : AH) (a : Nat) : va_E := if (mS h a).1 < 100 then .inr ((mS h a).1 - 1, fs_ ad h a ((mS h a).1 - 1)) else .inl (tc ((mS h a).1 - 100), ar_ ad h a ((mS h a).1 - 100) (mS h a).2)
def dyn (tc : Nat → ClassId) (ad : Nat → Nat) (h : AH) : va_W := (List.range (mN h - nZ)).map (fun i => (ad (nZ + i), ce_ tc ad h (nZ + i)))
def tys (tc : Nat → ClassId) : List (ClassId × FieldType) := (List.range 9).map (fun t => (tc t, ty_ t))
/-- places of a static array -/
def ev (ad : Nat → Nat) (h : AH) (a t j : Nat) : Value := if t = 1 then .long (mL h a j) else if 5 ≤ t then cv ad (.ref (mR h a j)) else .int (mI h a j)
def sOk (ad : Nat → Nat) (h : AH) (A : Nat → Prop) (U : State) (H : Heap) (k : Nat) : Prop :=
  ((mS h k).1 = 20 ∨ (mS h k).1 = 21 → va_O (sNm (mS h k).1) (ad k) A U H ∧ ∀ (j : Nat) (q : String × String × String), (sFd (mS h k).1)[j]? = some q → va_OF q.1 q.2.1 q.2.2 (fv ad h k j ((fc ((mS h k).1 - 1)).getD j 0)) (ad k) A U H) ∧
  (100 ≤ (mS h k).1 → va_T (ty_ ((mS h k).1 - 100)) (ad k) (mS h k).2 (ev ad h k ((mS h k).1 - 100)) A U H)
/-- the class of arrays of arrays of numbers -/
def va_GA (U : State) : Prop := ∃ (comp cA : ClassId) (kA : Class), U.vm.findClass "[I" = some comp ∧ U.vm.findClass "[[I" = some cA ∧ U.vm.classes[cA]? = some kA ∧ kA.kind = .array comp (.array .int)
theorem va_GA.moved {u U : State} (hvm : u.vm.Alike U.vm) (h : va_GA u) : va_GA U := by
  obtain ⟨comp, cA, kA, h1, h2, h3, h4⟩ := h
  obtain ⟨k', hk', he⟩ := hvm.2.2 _ _ h3
  exact ⟨comp, cA, k', by rw [hvm.findClass]; exact h1, by rw [hvm.findClass]; exact h2, hk', by rw [he]; exact h4⟩
/-- what the start has and nobody writes -/
def Sf (ad : Nat → Nat) (h : AH) (A : Nat → Prop) (U : State) (H : Heap) : Prop :=
  (∀ k, k < nZ → sOk ad h A U H k) ∧ vx_Zq Bundle.tN "UNASSIGNED_STACK" Bundle.steD A U H ∧ vx_Zq Bundle.tN "SUPPRESSED_SENTINEL" Bundle.listD A U H ∧
  (∀ q ∈ zsl, va_Z q.1 q.2.1 q.2.2.1 (if q.2.2.2.1 = 0 then .int q.2.2.2.2.1 else .ref (ad q.2.2.2.2.2)) A U H) ∧
  (∀ q ∈ stl, vk_R q.1 q.2.1 q.2.2.1 (ad q.2.2.2) U) ∧ (∀ q ∈ mgl, ∃ sa, vk_R q.1 q.2.1 q.2.2 sa U) ∧
  (∀ q ∈ nfl, va_Nw (.fieldLinkNest q.1 q.2.1 q.2.2.1 q.2.2.2.1 q.2.2.2.2.1 q.2.2.2.2.2) U) ∧ (∀ q ∈ nml, va_Nw (.methodLinkNest q.1 q.2.1 q.2.2.1 q.2.2.2) U) ∧
  (∀ q ∈ cal, va_Nw (.castable q.1 q.2) U) ∧ (∀ C ∈ [RX7, RX8, RX1], va_AO C U) ∧ (∀ q ∈ ncl, va_Nc q.1 q.2 U) ∧ (∀ y ∈ dcl, va_Nw (.declares y) U) ∧ va_GA U ∧ ∃ k, (k = 0 ∨ k = 62) ∧ va_Z "jdk/internal/util/Preconditions" "SIOOBE_FORMATTER" "Ljava/util/function/BiFunction;" (cv ad (.ref k)) A U H
end
section
/-! RELATION OF THE ABSTRACT HEAP TO THE MACHINE'S -/
def wf (h : AH) : Prop := nZ ≤ mN h ∧ (∀ a j, mR h a j < mN h) ∧ (∀ a, mN h ≤ a → mS h a = (0, 0)) ∧ (∀ a, a < nZ → (mS h a).1 = 0 ∨ 20 ≤ (mS h a).1) ∧ mS h 0 = (0, 0)
def sameS (h h' : AH) : Prop := ∀ k, k < nZ → mS h' k = mS h k ∧ mI h' k = mI h k ∧ mR h' k = mR h k ∧ mL h' k = mL h k
theorem sameS.rf (h : AH) : sameS h h := fun _ _ => ⟨rfl, rfl, rfl, rfl⟩
theorem sameS.tr {a b c : AH} (h : sameS a b) (g : sameS b c) : sameS a c := fun k hk => ⟨(g k hk).1.trans (h k hk).1, (g k hk).2.1.trans (h k hk).2.1, (g k hk).2.2.1.trans (h k hk).2.2.1, (g k hk).2.2.2.trans (h k hk).2.2.2⟩
theorem cv_eq {ad ad' : Nat → Nat} {h : AH} (hd : ∀ k, k < mN h → ad' k = ad k) {v : Value} (hv : vok h v) : cv ad' v = cv ad v := by
  cases v <;> simp only [cv]
  next a => rw [hd a hv]
theorem sOk.re {ad ad' : Nat → Nat} {h h' : AH} {A : Nat → Prop} {U : State} {H : Heap} {k : Nat} (hs : sOk ad h A U H k) (hk : k < nZ) (w : wf h) (hd : ∀ k, k < mN h → ad' k = ad k) (hh : sameS h h') : sOk ad' h' A U H k := by
  obtain ⟨e1, e2, e3, e4⟩ := hh k hk
  have ek : ad' k = ad k := hd k (Nat.lt_of_lt_of_le hk w.1)
  have ef : ∀ j c, fv ad' h' k j c = fv ad h k j c := by
    intro j c
    unfold fv
    split
    · rw [e2]
    · rw [e3]; exact cv_eq hd (w.2.1 k j)
    · rw [e4]
  have ee : ∀ t, ev ad' h' k t = ev ad h k t := by
    intro t
    funext j
    unfold ev
    rw [e2, e3, e4, cv_eq (h := h) hd (v := .ref (mR h k j)) (w.2.1 k j)]
  unfold sOk
  simp only [e1, ek, ef, ee]
  exact hs
theorem sOk.go {ad : Nat → Nat} {h : AH} {A B : Nat → Prop} {u U : State} {H H1 : Heap} {k : Nat} (hs : sOk ad h A u H k) (hvm : u.vm.Alike U.vm) (hq : ∀ a : Nat, a < H.size → ¬ A a → H1[a]? = H[a]?) (hAB : ∀ q, B q → A q) : sOk ad h B U H1 k := by
  refine ⟨fun h1 => ⟨(((hs.1 h1).1.moved hvm).kept hq).narrow hAB, fun j q hj => ((((hs.1 h1).2 j q hj).moved hvm).kept hq).narrow hAB⟩, fun h1 => (((hs.2 h1).moved hvm).kept hq).narrow hAB⟩
theorem Sf.re {ad ad' : Nat → Nat} {h h' : AH} {A : Nat → Prop} {U : State} {H : Heap} (hs : Sf ad h A U H) (w : wf h) (hd : ∀ k, k < mN h → ad' k = ad k) (hh : sameS h h') : Sf ad' h' A U H := by
  obtain ⟨s1, s2, s3, s4, s5, s6, s7, s8, s9, s10, s11, s12, s14, k, hk, s13⟩ := hs
  have e : ∀ k, k < nZ → ad' k = ad k := fun k hk => hd k (Nat.lt_of_lt_of_le hk w.1)
  refine ⟨fun k hk => (s1 k hk).re hk w hd hh, s2, s3, fun q hq => ?_, fun q hq => ?_, s6, s7, s8, s9, s10, s11, s12, s14, k, hk, ?_⟩
  · have h1 := s4 q hq
    have h2 : q.2.2.2.2.2 < nZ := (show ∀ q ∈ zsl, q.2.2.2.2.2 < nZ by decide +kernel) q hq
    rw [e _ h2]
    exact h1
  · have h1 := s5 q hq
    have h2 : q.2.2.2 < nZ := (show ∀ q ∈ stl, q.2.2.2 < nZ by decide +kernel) q hq
    rw [e _ h2]
    exact h1
  · have e9 : cv ad' (.ref k) = cv ad (.ref k) := by
      simp only [cv, e k (by rcases hk with rfl | rfl <;> decide)]
    rw [e9]
    exact s13
theorem Sf.go {ad : Nat → Nat} {h : AH} {A B : Nat → Prop} {u U : State} {H H1 : Heap} (hs : Sf ad h A u H) (hW : u.WarmedH U.vm) (hq : ∀ a : Nat, a < H.size → ¬ A a → H1[a]? = H[a]?) (hAB : ∀ q, B q → A q) : Sf ad h B U H1 := by
  obtain ⟨s1, s2, s3, s4, s5, s6, s7, s8, s9, s10, s11, s12, s14, k9, hk9, s13⟩ := hs
  have hvm := hW.alike
  exact ⟨fun k hk => (s1 k hk).go hvm hq hAB, ((s2.moved hvm).kept hq).narrow hAB, ((s3.moved hvm).kept hq).narrow hAB, fun q hq9 => (((s4 q hq9).moved hvm).kept hq).narrow hAB, fun q hq9 => (s5 q hq9).warm hW, fun q hq9 => by
    obtain ⟨sa, h9⟩ := s6 q hq9
    exact ⟨sa, h9.warm hW⟩, fun q hq9 => va_Nw.warmF hW (s7 q hq9), fun q hq9 => va_Nw.warmM hW (s8 q hq9), fun q hq9 => va_Nw.warmC hW (s9 q hq9), fun C hC => (s10 C hC).moved hvm, fun q hq9 => (s11 q hq9).moved hvm, fun y hy => va_Nw.warmD hW (s12 y hy), s14.moved hvm, k9, hk9, ((s13.moved hvm).kept hq).narrow hAB⟩
def Rel (D : va_G) (tc : Nat → ClassId) (A : Nat → Prop) (ad : Nat → Nat) (h : AH) (s : State) (H : Heap) (locs : List Loc) : Prop :=
  va_K D CL (tys tc) s ∧ va_P D CL (dyn tc ad h) H ∧ va_D A (dyn tc ad h) ∧ va_S A s.heap H locs ∧ Sf ad h A s s.heap ∧ (∀ q, s.heap.size ≤ q → A q) ∧ wf h
theorem dyn_get {tc : Nat → ClassId} {ad : Nat → Nat} {h : AH} {a : Nat} (hz : nZ ≤ a) (ha : a < mN h) : (dyn tc ad h)[a - nZ]? = some (ad a, ce_ tc ad h a) := by
  have h1 : a - nZ < mN h - nZ := by omega
  have h2 : nZ + (a - nZ) = a := by omega
  unfold dyn
  rw [List.getElem?_map, List.getElem?_range h1]
  simp only [Option.map_some, h2]
theorem dyn_at {tc : Nat → ClassId} {ad : Nat → Nat} {h : AH} {i : Nat} {q : Nat × va_E} (hq : (dyn tc ad h)[i]? = some q) : nZ + i < mN h ∧ q = (ad (nZ + i), ce_ tc ad h (nZ + i)) := by
  unfold dyn at hq
  rw [List.getElem?_map] at hq
  by_cases hi : i < mN h - nZ
  · rw [List.getElem?_range hi] at hq
    refine ⟨by omega, ?_⟩
    cases hq
    rfl
  · rw [List.getElem?_eq_none (by rw [List.length_range]; omega)] at hq
    cases hq
theorem dyn_set {tc : Nat → ClassId} {ad : Nat → Nat} {h h' : AH} {a : Nat} (hn : mN h' = mN h) (hz : nZ ≤ a) (ha : a < mN h) (hb : ∀ b, b ≠ a → ce_ tc ad h' b = ce_ tc ad h b) : (dyn tc ad h).set (a - nZ) (ad a, ce_ tc ad h' a) = dyn tc ad h' := by
  apply List.ext_getElem?
  intro i
  rw [List.getElem?_set]
  by_cases hi : a - nZ = i
  · subst hi
    rw [if_pos rfl, dyn_get hz (by rw [hn]; exact ha), if_pos (by unfold dyn; rw [List.length_map, List.length_range]; omega)]
  · rw [if_neg hi]
    unfold dyn
    rw [List.getElem?_map, List.getElem?_map, hn]
    by_cases h1 : i < mN h - nZ
    · rw [List.getElem?_range h1]
      simp only [Option.map_some]
      rw [hb (nZ + i) (by omega)]
    · rw [List.getElem?_eq_none (by rw [List.length_range]; omega)]
      rfl
theorem dyn_push {tc : Nat → ClassId} {ad ad' : Nat → Nat} {h h' : AH} (hz : nZ ≤ mN h) (hn : mN h' = mN h + 1) (hb : ∀ b, b < mN h → ad' b = ad b ∧ ce_ tc ad' h' b = ce_ tc ad h b) : dyn tc ad' h' = dyn tc ad h ++ [(ad' (mN h), ce_ tc ad' h' (mN h))] := by
  unfold dyn
  rw [hn, show mN h + 1 - nZ = (mN h - nZ) + 1 by omega, List.range_succ, List.map_append]
  congr 1
  · apply List.map_congr_left
    intro i hi
    have := List.mem_range.mp hi
    obtain ⟨e1, e2⟩ := hb (nZ + i) (by omega)
    rw [e1, e2]
  · simp only [List.map_cons, List.map_nil, show nZ + (mN h - nZ) = mN h by omega]
theorem wf.dynz {h : AH} (w : wf h) {a k n : Nat} (hs : mS h a = (k, n)) (hk : k ≠ 0) (hk2 : k < 20) : nZ ≤ a ∧ a < mN h := by
  refine ⟨Nat.le_of_not_lt fun z => ?_, Nat.lt_of_not_le fun z => ?_⟩
  · have := w.2.2.2.1 a z
    rw [hs] at this
    simp only at this
    omega
  · have := w.2.2.1 a z
    rw [hs] at this
    cases this
    exact hk rfl
theorem wf.lt {h : AH} (w : wf h) {a k n : Nat} (hs : mS h a = (k, n)) (hk : k ≠ 0) : a < mN h := by
  refine Nat.lt_of_not_le fun z => ?_
  have := w.2.2.1 a z
  rw [hs] at this
  cases this
  exact hk rfl
theorem ce_obj {tc : Nat → ClassId} {ad : Nat → Nat} {h : AH} {a ci n : Nat} (hs : mS h a = (ci + 1, n)) (hc : ci < 9) : ce_ tc ad h a = .inr (ci, fs_ ad h a ci) := by
  unfold ce_
  rw [hs]
  exact if_pos (show ci + 1 < 100 by omega)
theorem ce_arr {tc : Nat → ClassId} {ad : Nat → Nat} {h : AH} {a t n : Nat} (hs : mS h a = (100 + t, n)) : ce_ tc ad h a = .inl (tc t, ar_ ad h a t n) := by
  unfold ce_
  rw [hs]
  simp only [show ¬ 100 + t < 100 by omega, if_false, show 100 + t - 100 = t by omega]
theorem fs_get {ad : Nat → Nat} {h : AH} {a ci k c : Nat} (hf : (fc ci)[k]? = some c) : (fs_ ad h a ci)[k]? = some (fv ad h a k c) := by
  unfold fs_
  rw [List.getElem?_mapIdx, hf]
  rfl
theorem fs_len {ad : Nat → Nat} {h : AH} {a ci : Nat} : (fs_ ad h a ci).length = (fc ci).length := by unfold fs_; exact List.length_mapIdx
theorem fs_set {ad : Nat → Nat} {h h' : AH} {a ci k c : Nat} (hf : (fc ci)[k]? = some c) (ho : ∀ j c', j ≠ k → fv ad h' a j c' = fv ad h a j c') : (fs_ ad h a ci).set k (fv ad h' a k c) = fs_ ad h' a ci := by
  apply List.ext_getElem?
  intro i
  unfold fs_
  rw [List.getElem?_set, List.getElem?_mapIdx, List.getElem?_mapIdx]
  by_cases hi : k = i
  · subst hi
    rw [if_pos rfl, hf, if_pos (by rw [List.length_mapIdx]; exact (List.getElem?_eq_some_iff.mp hf).1)]
    rfl
  · rw [if_neg hi]
    cases (fc ci)[i]? with
    | none => rfl
    | some c' => simp only [Option.map_some]; rw [ho i c' (fun z => hi z.symm)]
/-- the cells that a method may change -/
def Af (ad : Nat → Nat) (h : AH) (sz : Nat) : Nat → Prop := fun q => sz ≤ q ∨ ∃ k, nZ ≤ k ∧ k < mN h ∧ q = ad k
end
section
/-! X: FROM THIS POINT OF A METHOD EVERY RUN ENDS AS K (RETURN) OR T (THROW) SAYS; Cn: A METHOD'S CONTRACT IN THE SAME WORDS -/
/-- 'selects' of StringBuilder for private methods of its superclass (shown at the law's entry) -/
def xsl : List MethodName := [yJ5_ensureCapacityInternal_d00df, yJ5_newCapacity_0f7a4, yJ5_putStringAt_47b60, yJ5_inflateIfNeededFor_a7421]
def xse : List Cond := xsl.map (fun y => .selects RJ4 y y)
def gw : List Cond := (lw_tbl ++ xse).filter goodWord
theorem gw_of {w : Cond} (h : w ∈ lw_tbl) (g : goodWord w = true) : w ∈ gw := List.mem_filter.mpr ⟨List.mem_append_left _ h, g⟩
theorem gw_ofx {w : Cond} (h : w ∈ xse) (g : goodWord w = true) : w ∈ gw := List.mem_filter.mpr ⟨List.mem_append_right _ h, g⟩
theorem gw_good {w : Cond} (h : w ∈ gw) : (w.onTables && w.keeps) = true ∨ ∃ ty, w = .arrayClass ty := good_of_word (List.mem_filter.mp h).2
abbrev Mt : Type := MethodName × ByteArray × Nat × Option FieldType × List (Nat × Nat × Nat × Nat)
def Cx (M : Mt) (lv : Nat) (p : Program) (l : Launch) (R : Room) (s : State) (m : MethodId) (args : Array Value) (meth : Method) (c : Code) : Prop :=
  p.tables.exec = Jvm.exec ∧ c.code = M.2.1 ∧ c.maxLocals = M.2.2.1 ∧ meth.sig.returnType = M.2.2.2.1 ∧ (∀ w ∈ gw, w.before args s = true) ∧ s.vm.findClass M.1.cls = some m.cls ∧ meth.locks = false ∧ c.exceptionTable.toList = tableOf M.2.2.2.2 ∧ l.stackTraces = false ∧ (M.1.name = "<init>" → meth.name = "<init>") ∧ lv ≤ R.frames ∧ 40 * lv ≤ R.locals
def rok (M : Mt) (pc : Nat) (v : Option Value) : Prop := match v with
  | none => decode M.2.1 pc = .ok (.return_, 1) ∧ M.2.2.2.1 = none
  | some (.int x) => decode M.2.1 pc = .ok (.ireturn, 1) ∧ ∃ ty, M.2.2.2.1 = some ty ∧ narrow ty (.int x) = .int x
  | some (.long _) => decode M.2.1 pc = .ok (.lreturn, 1) ∧ M.2.2.2.1 = some .long
  | some (.float _) => decode M.2.1 pc = .ok (.freturn, 1) ∧ M.2.2.2.1 = some .float
  | some (.double _) => decode M.2.1 pc = .ok (.dreturn, 1) ∧ M.2.2.2.1 = some .double
  | some (.ref _) => decode M.2.1 pc = .ok (.areturn, 1) ∧ ((∃ n, M.2.2.2.1 = some (.object n)) ∨ ∃ n, M.2.2.2.1 = some (.array n))
  | _ => False
def Ext (n0 : Nat) (ad0 : Nat → Nat) (h0 : AH) (ad : Nat → Nat) (h : AH) : Prop := n0 ≤ mN h ∧ (∀ k, k < n0 → ad k = ad0 k) ∧ sameS h0 h
def EndR (M : Mt) (K : Option Value → AH → Prop) (p : Program) (l : Launch) (e : Env) (R : Room) (s : State) (m : MethodId) (args : Array Value) (below : List Frame) (meth : Method) (c : Code) (D : va_G) (tc : Nat → ClassId) (A : Nat → Prop) (n0 : Nat) (ad0 : Nat → Nat) (h0 : AH) (Q : State → Prop) : Prop :=
  ∀ (ad : Nat → Nat) (h : AH) (H : Heap) (locs : List Loc) (cells slots : Nat) (v : Option Value) (pc : Nat) (la : Array Slot), Rel D tc A ad h s H locs → Ext n0 ad0 h0 ad h → (∀ x ∈ v.toList, vok h x) → K v h → cells ≤ R.cells → slots ≤ R.slots → rok M pc v → W p l e R s m args below meth c H locs cells slots Q (F0 m pc la (v.toList.map (cv ad)))
def Wt (D : va_G) (tc : Nat → ClassId) (A : Nat → Prop) (n0 : Nat) (ad0 : Nat → Nat) (h0 : AH) (ad : Nat → Nat) (h : AH) (t : State) : Prop := va_P D CL (dyn tc ad h) t.heap ∧ va_D A (dyn tc ad h) ∧ wf h ∧ Ext n0 ad0 h0 ad h
def EndT (T : String → AH → Prop) (p : Program) (l : Launch) (e : Env) (R : Room) (s : State) (m : MethodId) (args : Array Value) (below : List Frame) (meth : Method) (c : Code) (D : va_G) (tc : Nat → ClassId) (A : Nat → Prop) (n0 : Nat) (ad0 : Nat → Nat) (h0 : AH) (Q : State → Prop) : Prop :=
  ∀ U : State, vx_MQ below (fun _ _ _ _ => False) (fun E st t => (∃ (h : AH) (ad : Nat → Nat), T E h ∧ Wt D tc A n0 ad0 h0 ad h t) ∧ va_F A st t) args s R.cells R.slots A U → Q U
def cvl (ad : Nat → Nat) (ls : List (Nat × Value)) : List (Nat × Value) := ls.map (fun q => (q.1, cv ad q.2))
def X (M : Mt) (lv : Nat) (K : Option Value → AH → Prop) (T : String → AH → Prop) (rc rs pc : Nat) (ls : List (Nat × Value)) (st : List Value) (h : AH) : Prop :=
  ∀ (p : Program) (l : Launch) (e : Env) (R : Room) (s : State) (m : MethodId) (args : Array Value) (below : List Frame) (meth : Method) (c : Code) (D : va_G) (tc : Nat → ClassId) (A : Nat → Prop) (n0 : Nat) (ad0 : Nat → Nat) (h0 : AH) (Q : State → Prop) (ad : Nat → Nat) (H : Heap) (locs : List Loc) (cells slots : Nat) (la : Array Slot),
    Cx M lv p l R s m args meth c → Rel D tc A ad h s H locs → Ext n0 ad0 h0 ad h → (∀ v ∈ st, vok h v) → (∀ q ∈ ls, vok h q.2) → lv_has la M.2.2.1 (cvl ad ls) → cells + rc ≤ R.cells → slots + rs ≤ R.slots →
    EndR M K p l e R s m args below meth c D tc A n0 ad0 h0 Q → EndT T p l e R s m args below meth c D tc A n0 ad0 h0 Q → W p l e R s m args below meth c H locs cells slots Q (F0 m pc la (st.map (cv ad)))
/-- .. thrown here: an object of the kind E -/
def XT (M : Mt) (lv : Nat) (K : Option Value → AH → Prop) (T : String → AH → Prop) (rc rs : Nat) (E : String) (pc : Nat) (ls : List (Nat × Value)) (h : AH) : Prop :=
  ∀ (p : Program) (l : Launch) (e : Env) (R : Room) (s : State) (m : MethodId) (args : Array Value) (below : List Frame) (meth : Method) (c : Code) (D : va_G) (tc : Nat → ClassId) (A : Nat → Prop) (n0 : Nat) (ad0 : Nat → Nat) (h0 : AH) (Q : State → Prop) (ad : Nat → Nat) (H : Heap) (locs : List Loc) (cells slots : Nat) (la : Array Slot) (q : Addr) (ce : Cell) (st : List Value),
    Cx M lv p l R s m args meth c → Rel D tc A ad h s H locs → Ext n0 ad0 h0 ad h → (∀ q ∈ ls, vok h q.2) → lv_has la M.2.2.1 (cvl ad ls) → cells + rc ≤ R.cells → slots + rs ≤ R.slots → H[q]? = some ce → ce.vm = .none → s.vm.findClass E = some ce.cls →
    EndR M K p l e R s m args below meth c D tc A n0 ad0 h0 Q → EndT T p l e R s m args below meth c D tc A n0 ad0 h0 Q → vx_W p l e R s m args below meth c H locs cells slots Q (F0 m pc la st) q
def Qr (D : va_G) (tc : Nat → ClassId) (ad : Nat → Nat) (h : AH) (sz : Nat) (K : Option Value → AH → Prop) : Array Value → State → Outcome → State → Prop := fun _ st oc t =>
  (∃ (v : Option Value) (h' : AH) (ad' : Nat → Nat), oc = .returned (v.map (cv ad')) ∧ K v h' ∧ (∀ x ∈ v.toList, vok h' x) ∧ Wt D tc (Af ad h sz) (mN h) ad h ad' h' t) ∧ va_F (Af ad h sz) st t
def Qx (D : va_G) (tc : Nat → ClassId) (ad : Nat → Nat) (h : AH) (sz : Nat) (T : String → AH → Prop) : String → State → State → Prop := fun E st t =>
  (∃ (h' : AH) (ad' : Nat → Nat), T E h' ∧ Wt D tc (Af ad h sz) (mN h) ad h ad' h' t) ∧ va_F (Af ad h sz) st t
def Pcn (D : va_G) (tc : Nat → ClassId) (ad : Nat → Nat) (h : AH) (sz : Nat) (as : List Value) : Array Value → State → Prop := va_Pc (as.map (cv ad)) (fun U => U.heap.size = sz ∧ Rel D tc (Af ad h sz) ad h U U.heap [] ∧ ∀ v ∈ as, vok h v)
def Cn (M : Mt) (cw : Cond) (lv mc ms : Nat) (as : List Value) (h : AH) (K : Option Value → AH → Prop) (T : String → AH → Prop) : Prop :=
  ∀ (l : Launch), l.stackTraces = false → ∀ (D : va_G) (tc : Nat → ClassId) (ad : Nat → Nat) (sz : Nat),
    vx_Met l M.1 (cw :: gw) ({ frames := lv, cells := mc, slots := ms, locals := 40 * lv } : Room) (Pcn D tc ad h sz as) (Qr D tc ad h sz K) (Qx D tc ad h sz T) mc ms (Af ad h sz)
theorem cvl_args (ad : Nat → Nat) : ∀ (as : List Value) (i : Nat), lv_args i (as.map (cv ad)) = cvl ad (lv_args i as)
  | [], _ => rfl
  | v :: vs, i => by
    simp only [List.map_cons, lv_args, cv_cat, cvl]
    refine congrArg _ ?_
    exact cvl_args ad vs _
theorem lg_len (ad : Nat → Nat) (as : List Value) : (lg_sl (as.map (cv ad))).length = (lg_sl as).length := by
  induction as with
  | nil => rfl
  | cons v vs ih =>
    unfold lg_sl at ih ⊢
    simp only [List.map_cons, List.flatMap_cons, List.length_append, cv_cat, ih]
    split <;> rfl
theorem endR_of {M : Mt} {K : Option Value → AH → Prop} {XC : String → State → State → Prop} {p : Program} {l : Launch} {e : Env} {R : Room} {s : State} {m : MethodId} {args : Array Value} {below : List Frame} {meth : Method} {c : Code} {D : va_G} {tc : Nat → ClassId} {ad0 : Nat → Nat} {h0 : AH} {sz mc ms lv : Nat}
    (C : Cx M lv p l R s m args meth c) (hc : R.cells = mc) (hs : R.slots = ms) : EndR M K p l e R s m args below meth c D tc (Af ad0 h0 sz) (mN h0) ad0 h0 (vx_MQ below (Qr D tc ad0 h0 sz K) XC args s mc ms (Af ad0 h0 sz)) := by
  intro ad h H locs cells slots v pc la hR hE hv hK h1 h2 hr
  obtain ⟨hx, hb, hml, hret, hts, hown, hlk, -⟩ := C
  obtain ⟨r1, r2, r3, r4, r5, r6, r7⟩ := hR
  refine vx_ret ?_
  refine W.widen (k := mc) (n := ms) (by omega) (by omega) ?_
  have hq : ∀ t : State, t.heap = H → s.WarmedH t.vm → Qr D tc ad0 h0 sz K args s (.returned (v.map (cv ad))) t := fun t ht hW => ⟨⟨v, h, ad, rfl, hK, hv, by rw [ht]; exact r2, r3, r7, hE⟩, r4.F ht⟩
  cases v with
  | none => exact W.vret hx hb (hret.trans hr.2) hq r4.2.2 hr.1
  | some w =>
    cases w with
    | int x =>
      obtain ⟨d, ty, e1, e2⟩ := hr
      exact W.zret hx hb (hret.trans e1) e2 hq r4.2.2 d
    | long x => exact W.lret hx hb (hret.trans hr.2) hq r4.2.2 hr.1
    | float x => exact W.fret hx hb (hret.trans hr.2) hq r4.2.2 hr.1
    | double x => exact W.dret hx hb (hret.trans hr.2) hq r4.2.2 hr.1
    | ref a =>
      obtain ⟨d, e1⟩ := hr
      have hz : cv ad (.ref a) = .null ∨ ∃ b, cv ad (.ref a) = .ref b := by
        unfold cv
        by_cases z : a = 0
        · exact Or.inl (by simp [z])
        · exact Or.inr ⟨ad a, by simp [z]⟩
      rcases e1 with ⟨n, e1⟩ | ⟨n, e1⟩
      · exact W.aret hx hb (hret.trans e1) (Or.inl ⟨n, rfl⟩) hz hq r4.2.2 d
      · exact W.aret hx hb (hret.trans e1) (Or.inr ⟨n, rfl⟩) hz hq r4.2.2 d
    | _ => exact hr.elim
theorem endT_of {T : String → AH → Prop} {Qc : Array Value → State → Outcome → State → Prop} {p : Program} {l : Launch} {e : Env} {R : Room} {s : State} {m : MethodId} {args : Array Value} {below : List Frame} {meth : Method} {c : Code} {D : va_G} {tc : Nat → ClassId} {ad0 : Nat → Nat} {h0 : AH} {sz mc ms : Nat}
    (hc : R.cells = mc) (hs : R.slots = ms) : EndT T p l e R s m args below meth c D tc (Af ad0 h0 sz) (mN h0) ad0 h0 (vx_MQ below Qc (Qx D tc ad0 h0 sz T) args s mc ms (Af ad0 h0 sz)) := by
  intro U ⟨o, h1, h2, h3⟩
  refine ⟨o, h1, h2, ?_⟩
  rcases h3 with ⟨z, -⟩ | ⟨q, e1, E, ce, L, hX, g1, g2, g3, g4, g5, g6⟩
  · exact z.elim
  · rw [hc, hs] at g5
    exact Or.inr ⟨q, e1, E, ce, L, hX, g1, g2, g3, g4, g5, g6⟩
theorem Cn_of {M : Mt} {lv mc ms : Nat} {as : List Value} {h : AH} {K : Option Value → AH → Prop} {T : String → AH → Prop} (hy : plainName M.1.cls = true) (ht : M.2.2.2.2 = []) (hlen : (lg_sl as).length ≤ M.2.2.1)
    (hX : X M lv K T mc ms 0 (lv_args 0 as) [] h) : Cn M (.code M.1 M.2.1 M.2.2.1 M.2.2.2.1) lv mc ms as h K T := by
  intro l hl D tc ad sz
  refine vx_ofW (cc := M.2.1) (maxL := M.2.2.1) (ret := M.2.2.2.1) hy rfl ?_
  intro p e s m args below meth c s₁ B hml htab hv
  obtain ⟨rfl, hsz, hR, hok⟩ := hv
  have hts := atoms_spec (ws := Cond.code M.1 M.2.1 M.2.2.1 M.2.2.2.1 :: gw) B.pre
  have hC : Cx M lv p l ({ frames := lv, cells := mc, slots := ms, locals := 40 * lv } : Room) s m ((as.map (cv ad)).toArray) meth c := ⟨B.exec, B.bytes, hml, B.returns, fun w hw => hts w (List.mem_cons_of_mem _ hw), findClass_of_methodNamed B.named, B.notSynchronized, by rw [ht]; exact List.eq_nil_iff_forall_not_mem.mpr (fun x hx => htab x hx), hl, fun hi => (name_of_methodNamed B.named B.method).1.trans hi, Nat.le_refl _, Nat.le_refl _⟩
  have hent := lv_entry (as.map (cv ad)) (n := M.2.2.1) (by rw [lg_len]; exact hlen)
  rw [lg_entry_eq]
  rw [cvl_args] at hent
  exact hX p l e _ s m _ below meth c D tc (Af ad h sz) (mN h) ad h _ ad s.heap [] 0 0 _ hC hR ⟨Nat.le_refl _, fun _ _ => rfl, sameS.rf h⟩ (fun v hv => absurd hv List.not_mem_nil) (fun q hq => hok q.2 (by
    have key : ∀ (as : List Value) (i : Nat) (q : Nat × Value), q ∈ lv_args i as → q.2 ∈ as := by
      intro as
      induction as with
      | nil => intro i q hq; cases hq
      | cons v vs ih =>
        intro i q hq
        rcases List.mem_cons.mp hq with rfl | hq
        · exact List.mem_cons_self
        · exact List.mem_cons_of_mem _ (ih _ q hq)
    exact key as 0 q hq)) hent (by show 0 + mc ≤ mc; omega) (by show 0 + ms ≤ ms; omega) (endR_of hC rfl rfl) (endT_of rfl rfl)
theorem CnH_of {M : Mt} {lv mc ms : Nat} {as : List Value} {h : AH} {K : Option Value → AH → Prop} {T : String → AH → Prop} (hy : plainName M.1.cls = true) (hlen : (lg_sl as).length ≤ M.2.2.1)
    (hX : X M lv K T mc ms 0 (lv_args 0 as) [] h) : Cn M (.codeWith M.1 M.2.1 M.2.2.1 M.2.2.2.1 M.2.2.2.2) lv mc ms as h K T := by
  intro l hl D tc ad sz
  refine vx_ofWH (cc := M.2.1) (maxL := M.2.2.1) (ret := M.2.2.2.1) (hh := M.2.2.2.2) hy rfl ?_
  intro p e s m args below meth c s₁ B hml hv
  obtain ⟨rfl, hsz, hR, hok⟩ := hv
  have hts := atoms_spec (ws := Cond.codeWith M.1 M.2.1 M.2.2.1 M.2.2.2.1 M.2.2.2.2 :: gw) B.pre
  have hC : Cx M lv p l ({ frames := lv, cells := mc, slots := ms, locals := 40 * lv } : Room) s m ((as.map (cv ad)).toArray) meth c := ⟨B.exec, B.bytes, hml, B.returns, fun w hw => hts w (List.mem_cons_of_mem _ hw), findClass_of_methodNamed B.named, B.notSynchronized, vx_table (x := M.1) B (hts _ List.mem_cons_self), hl, fun hi => (name_of_methodNamed B.named B.method).1.trans hi, Nat.le_refl _, Nat.le_refl _⟩
  have hent := lv_entry (as.map (cv ad)) (n := M.2.2.1) (by rw [lg_len]; exact hlen)
  rw [lg_entry_eq]
  rw [cvl_args] at hent
  exact hX p l e _ s m _ below meth c D tc (Af ad h sz) (mN h) ad h _ ad s.heap [] 0 0 _ hC hR ⟨Nat.le_refl _, fun _ _ => rfl, sameS.rf h⟩ (fun v hv => absurd hv List.not_mem_nil) (fun q hq => hok q.2 (by
    have key : ∀ (as : List Value) (i : Nat) (q : Nat × Value), q ∈ lv_args i as → q.2 ∈ as := by
      intro as
      induction as with
      | nil => intro i q hq; cases hq
      | cons v vs ih =>
        intro i q hq
        rcases List.mem_cons.mp hq with rfl | hq
        · exact List.mem_cons_self
        · exact List.mem_cons_of_mem _ (ih _ q hq)
    exact key as 0 q hq)) hent (by show 0 + mc ≤ mc; omega) (by show 0 + ms ≤ ms; omega) (endR_of hC rfl rfl) (endT_of rfl rfl)
end
section
/-! ROWS: one an instruction -/
def lput (q : Nat × Value) : List (Nat × Value) → List (Nat × Value)
  | [] => [q]
  | r :: t => if r.1 < q.1 then r :: lput q t else q :: r :: t
theorem lput_mem {q x : Nat × Value} : ∀ {l : List (Nat × Value)}, x ∈ lput q l → x = q ∨ x ∈ l
  | [], h => Or.inl (List.mem_singleton.mp h)
  | r :: t, h => by
    unfold lput at h
    split at h
    · rcases List.mem_cons.mp h with h | h
      · exact Or.inr (by rw [h]; exact List.mem_cons_self)
      · rcases lput_mem h with h | h
        · exact Or.inl h
        · exact Or.inr (List.mem_cons_of_mem _ h)
    · rcases List.mem_cons.mp h with h | h
      · exact Or.inl h
      · exact Or.inr h
def lset (ls : List (Nat × Value)) (i : Nat) (v : Value) : List (Nat × Value) := lput (i, v) (ls.filter (fun q => !(q.1 == i) && !(q.1 + 1 == i && q.2.category == 2)))
def lset2 (ls : List (Nat × Value)) (i : Nat) (v : Value) : List (Nat × Value) := lput (i, v) (ls.filter (fun q => !(q.1 == i) && (!(q.1 == i + 1) && !(q.1 + 1 == i && q.2.category == 2))))
theorem lset_has {la : Array Slot} {nL i : Nat} {ad : Nat → Nat} {ls ls' : List (Nat × Value)} {v : Value} (h : lv_has la nL ((i, cv ad v) :: (cvl ad ls).filter (fun q => !(q.1 == i) && !(q.1 + 1 == i && q.2.category == 2)))) (e : lset ls i v = ls') : lv_has la nL (cvl ad ls') := by
  subst e
  refine ⟨h.1, h.2.1, fun q hq => h.2.2 q ?_⟩
  obtain ⟨x, hx, rfl⟩ := List.mem_map.mp hq
  rcases lput_mem hx with rfl | hx
  · exact List.mem_cons_self
  · obtain ⟨h1, h2⟩ := List.mem_filter.mp hx
    refine List.mem_cons_of_mem _ (List.mem_filter.mpr ⟨List.mem_map.mpr ⟨x, h1, rfl⟩, ?_⟩)
    simp only [cv_cat]
    exact h2
theorem lset2_has {la : Array Slot} {nL i : Nat} {ad : Nat → Nat} {ls ls' : List (Nat × Value)} {v : Value} (h : lv_has la nL ((i, cv ad v) :: (cvl ad ls).filter (fun q => !(q.1 == i) && (!(q.1 == i + 1) && !(q.1 + 1 == i && q.2.category == 2))))) (e : lset2 ls i v = ls') : lv_has la nL (cvl ad ls') := by
  subst e
  refine ⟨h.1, h.2.1, fun q hq => h.2.2 q ?_⟩
  obtain ⟨x, hx, rfl⟩ := List.mem_map.mp hq
  rcases lput_mem hx with rfl | hx
  · exact List.mem_cons_self
  · obtain ⟨h1, h2⟩ := List.mem_filter.mp hx
    refine List.mem_cons_of_mem _ (List.mem_filter.mpr ⟨List.mem_map.mpr ⟨x, h1, rfl⟩, ?_⟩)
    simp only [cv_cat]
    exact h2
theorem lset_ok {h : AH} {ls ls' : List (Nat × Value)} {i : Nat} {v : Value} (hls : ∀ q ∈ ls, vok h q.2) (hv : vok h v) (e : lset ls i v = ls') : ∀ q ∈ ls', vok h q.2 := by
  subst e
  intro q hq
  rcases lput_mem hq with rfl | hq
  · exact hv
  · exact hls q (List.mem_filter.mp hq).1
theorem lset2_ok {h : AH} {ls ls' : List (Nat × Value)} {i : Nat} {v : Value} (hls : ∀ q ∈ ls, vok h q.2) (hv : vok h v) (e : lset2 ls i v = ls') : ∀ q ∈ ls', vok h q.2 := by
  subst e
  intro q hq
  rcases lput_mem hq with rfl | hq
  · exact hv
  · exact hls q (List.mem_filter.mp hq).1
theorem cvl_at {la : Array Slot} {nL k i : Nat} {ad : Nat → Nat} {ls : List (Nat × Value)} {v : Value} (h : lv_has la nL (cvl ad ls)) (hk : ls[k]? = some (i, v)) : la[i]? = some (.val (cv ad v)) :=
  lv_at h k (by unfold cvl; rw [List.getElem?_map, hk]; rfl)
theorem cv_ref {ad : Nat → Nat} {a : Nat} (h : a ≠ 0) : cv ad (.ref a) = .ref (ad a) := by unfold cv; simp only [h, if_false]
/-- fewer places known -/
theorem X_sub {M : Mt} {lv : Nat} {K : Option Value → AH → Prop} {T : String → AH → Prop} {rc rs pc : Nat} {ls : List (Nat × Value)} {st : List Value} {h : AH} {ls' : List (Nat × Value)} (hsub : ∀ q ∈ ls', q ∈ ls) (k : X M lv K T rc rs pc ls' st h) : X M lv K T rc rs pc ls st h := by
  intro p l e R s m args below meth c D tc A n0 ad0 h0 Q ad H locs cells slots la C hR hE hst hls hla hc hs eR eT
  obtain ⟨hx, hb, hml, hret, hts, hown, hlk, htab, hns, hini, hfr, hlo⟩ := id C
  exact k p l e R s m args below meth c D tc A n0 ad0 h0 Q ad H locs cells slots la C hR hE hst (fun q hq => hls q (hsub q hq)) ⟨hla.1, hla.2.1, fun q hq => by
    obtain ⟨x, hx, rfl⟩ := List.mem_map.mp hq
    exact hla.2.2 _ (List.mem_map.mpr ⟨x, hsub x hx, rfl⟩)⟩ hc hs eR eT
/-- less room -/
theorem X_room {M : Mt} {lv : Nat} {K : Option Value → AH → Prop} {T : String → AH → Prop} {rc rs pc : Nat} {ls : List (Nat × Value)} {st : List Value} {h : AH} {rc' rs' : Nat} (h1 : rc' ≤ rc) (h2 : rs' ≤ rs) (k : X M lv K T rc' rs' pc ls st h) : X M lv K T rc rs pc ls st h := by
  intro p l e R s m args below meth c D tc A n0 ad0 h0 Q ad H locs cells slots la C hR hE hst hls hla hc hs eR eT
  obtain ⟨hx, hb, hml, hret, hts, hown, hlk, htab, hns, hini, hfr, hlo⟩ := id C
  exact k p l e R s m args below meth c D tc A n0 ad0 h0 Q ad H locs cells slots la C hR hE hst hls hla (by omega) (by omega) eR eT

theorem X_iconst {M : Mt} {lv : Nat} {K : Option Value → AH → Prop} {T : String → AH → Prop} {rc rs pc : Nat} {ls : List (Nat × Value)} {st : List Value} {h : AH} {n : Int} {v : Int32} (hd : decode M.2.1 pc = .ok (.iconst n, 1)) (hv : Int32.ofInt n = v) (k : X M lv K T rc rs (pc + 1) ls (.int v :: st) h) : X M lv K T rc rs pc ls (st) h := by
  intro p l e R s m args below meth c D tc A n0 ad0 h0 Q ad H locs cells slots la C hR hE hst hls hla hc hs eR eT
  obtain ⟨hx, hb, hml, hret, hts, hown, hlk, htab, hns, hini, hfr, hlo⟩ := id C
  exact lv_iconst hx hb hd hv (k p l e R s m args below meth c D tc A n0 ad0 h0 Q ad H locs cells slots la C hR hE (List.forall_mem_cons.mpr ⟨trivial, (fun v hv => hst v hv)⟩) hls hla hc hs eR eT)
theorem X_bipush {M : Mt} {lv : Nat} {K : Option Value → AH → Prop} {T : String → AH → Prop} {rc rs pc : Nat} {ls : List (Nat × Value)} {st : List Value} {h : AH} {n : Int} {v : Int32} (hd : decode M.2.1 pc = .ok (.bipush n, 2)) (hv : (Int8.ofInt n).toInt32 = v) (k : X M lv K T rc rs (pc + 2) ls (.int v :: st) h) : X M lv K T rc rs pc ls (st) h := by
  intro p l e R s m args below meth c D tc A n0 ad0 h0 Q ad H locs cells slots la C hR hE hst hls hla hc hs eR eT
  obtain ⟨hx, hb, hml, hret, hts, hown, hlk, htab, hns, hini, hfr, hlo⟩ := id C
  exact lv_bipush hx hb hd hv (k p l e R s m args below meth c D tc A n0 ad0 h0 Q ad H locs cells slots la C hR hE (List.forall_mem_cons.mpr ⟨trivial, (fun v hv => hst v hv)⟩) hls hla hc hs eR eT)
theorem X_sipush {M : Mt} {lv : Nat} {K : Option Value → AH → Prop} {T : String → AH → Prop} {rc rs pc : Nat} {ls : List (Nat × Value)} {st : List Value} {h : AH} {n : Int} {v : Int32} (hd : decode M.2.1 pc = .ok (.sipush n, 3)) (hv : (Int16.ofInt n).toInt32 = v) (k : X M lv K T rc rs (pc + 3) ls (.int v :: st) h) : X M lv K T rc rs pc ls (st) h := by
  intro p l e R s m args below meth c D tc A n0 ad0 h0 Q ad H locs cells slots la C hR hE hst hls hla hc hs eR eT
  obtain ⟨hx, hb, hml, hret, hts, hown, hlk, htab, hns, hini, hfr, hlo⟩ := id C
  exact lv_sipush hx hb hd hv (k p l e R s m args below meth c D tc A n0 ad0 h0 Q ad H locs cells slots la C hR hE (List.forall_mem_cons.mpr ⟨trivial, (fun v hv => hst v hv)⟩) hls hla hc hs eR eT)
theorem X_lconst {M : Mt} {lv : Nat} {K : Option Value → AH → Prop} {T : String → AH → Prop} {rc rs pc : Nat} {ls : List (Nat × Value)} {st : List Value} {h : AH} {n : Fin 2} {v : Int64} (hd : decode M.2.1 pc = .ok (.lconst n, 1)) (hv : Int64.ofNat (n : Nat) = v) (k : X M lv K T rc rs (pc + 1) ls (.long v :: st) h) : X M lv K T rc rs pc ls (st) h := by
  intro p l e R s m args below meth c D tc A n0 ad0 h0 Q ad H locs cells slots la C hR hE hst hls hla hc hs eR eT
  obtain ⟨hx, hb, hml, hret, hts, hown, hlk, htab, hns, hini, hfr, hlo⟩ := id C
  exact lv_lconst hx hb hd hv (k p l e R s m args below meth c D tc A n0 ad0 h0 Q ad H locs cells slots la C hR hE (List.forall_mem_cons.mpr ⟨trivial, (fun v hv => hst v hv)⟩) hls hla hc hs eR eT)
theorem X_fconst0 {M : Mt} {lv : Nat} {K : Option Value → AH → Prop} {T : String → AH → Prop} {rc rs pc : Nat} {ls : List (Nat × Value)} {st : List Value} {h : AH}  (hd : decode M.2.1 pc = .ok (.fconst 0, 1)) (k : X M lv K T rc rs (pc + 1) ls (.float FP.fconst0 :: st) h) : X M lv K T rc rs pc ls (st) h := by
  intro p l e R s m args below meth c D tc A n0 ad0 h0 Q ad H locs cells slots la C hR hE hst hls hla hc hs eR eT
  obtain ⟨hx, hb, hml, hret, hts, hown, hlk, htab, hns, hini, hfr, hlo⟩ := id C
  exact lv_fconst0 hx hb hd (k p l e R s m args below meth c D tc A n0 ad0 h0 Q ad H locs cells slots la C hR hE (List.forall_mem_cons.mpr ⟨trivial, (fun v hv => hst v hv)⟩) hls hla hc hs eR eT)
theorem X_dconst0 {M : Mt} {lv : Nat} {K : Option Value → AH → Prop} {T : String → AH → Prop} {rc rs pc : Nat} {ls : List (Nat × Value)} {st : List Value} {h : AH}  (hd : decode M.2.1 pc = .ok (.dconst 0, 1)) (k : X M lv K T rc rs (pc + 1) ls (.double FP.dconst0 :: st) h) : X M lv K T rc rs pc ls (st) h := by
  intro p l e R s m args below meth c D tc A n0 ad0 h0 Q ad H locs cells slots la C hR hE hst hls hla hc hs eR eT
  obtain ⟨hx, hb, hml, hret, hts, hown, hlk, htab, hns, hini, hfr, hlo⟩ := id C
  exact lv_dconst0 hx hb hd (k p l e R s m args below meth c D tc A n0 ad0 h0 Q ad H locs cells slots la C hR hE (List.forall_mem_cons.mpr ⟨trivial, (fun v hv => hst v hv)⟩) hls hla hc hs eR eT)
theorem X_ldcw {M : Mt} {lv : Nat} {K : Option Value → AH → Prop} {T : String → AH → Prop} {rc rs pc : Nat} {ls : List (Nat × Value)} {st : List Value} {h : AH} {n : Nat} {v : Int32} (hd : decode M.2.1 pc = .ok (.ldc_w n, 3)) (hw : Cond.constant M.1.cls n v ∈ gw) (k : X M lv K T rc rs (pc + 3) ls (.int v :: st) h) : X M lv K T rc rs pc ls (st) h := by
  intro p l e R s m args below meth c D tc A n0 ad0 h0 Q ad H locs cells slots la C hR hE hst hls hla hc hs eR eT
  obtain ⟨hx, hb, hml, hret, hts, hown, hlk, htab, hns, hini, hfr, hlo⟩ := id C
  exact lv_ldcw hx hb hown (hts _ hw) hd (k p l e R s m args below meth c D tc A n0 ad0 h0 Q ad H locs cells slots la C hR hE (List.forall_mem_cons.mpr ⟨trivial, (fun v hv => hst v hv)⟩) hls hla hc hs eR eT)
theorem X_ldc {M : Mt} {lv : Nat} {K : Option Value → AH → Prop} {T : String → AH → Prop} {rc rs pc : Nat} {ls : List (Nat × Value)} {st : List Value} {h : AH} {n : Nat} {v : Int32} (hd : decode M.2.1 pc = .ok (.ldc n, 2)) (hw : Cond.constant M.1.cls n v ∈ gw) (k : X M lv K T rc rs (pc + 2) ls (.int v :: st) h) : X M lv K T rc rs pc ls (st) h := by
  intro p l e R s m args below meth c D tc A n0 ad0 h0 Q ad H locs cells slots la C hR hE hst hls hla hc hs eR eT
  obtain ⟨hx, hb, hml, hret, hts, hown, hlk, htab, hns, hini, hfr, hlo⟩ := id C
  exact lv_ldc hx hb hown (hts _ hw) hd (k p l e R s m args below meth c D tc A n0 ad0 h0 Q ad H locs cells slots la C hR hE (List.forall_mem_cons.mpr ⟨trivial, (fun v hv => hst v hv)⟩) hls hla hc hs eR eT)
theorem X_aconst_null {M : Mt} {lv : Nat} {K : Option Value → AH → Prop} {T : String → AH → Prop} {rc rs pc : Nat} {ls : List (Nat × Value)} {st : List Value} {h : AH}  (hd : decode M.2.1 pc = .ok (.aconst_null, 1)) (k : X M lv K T rc rs (pc + 1) ls (.ref 0 :: st) h) : X M lv K T rc rs pc ls (st) h := by
  intro p l e R s m args below meth c D tc A n0 ad0 h0 Q ad H locs cells slots la C hR hE hst hls hla hc hs eR eT
  obtain ⟨hx, hb, hml, hret, hts, hown, hlk, htab, hns, hini, hfr, hlo⟩ := id C
  exact lv_null hx hb hd (k p l e R s m args below meth c D tc A n0 ad0 h0 Q ad H locs cells slots la C hR hE (List.forall_mem_cons.mpr ⟨(Nat.lt_of_lt_of_le (by decide) hR.2.2.2.2.2.2.1), (fun v hv => hst v hv)⟩) hls hla hc hs eR eT)
theorem X_iload_n {M : Mt} {lv : Nat} {K : Option Value → AH → Prop} {T : String → AH → Prop} {rc rs pc : Nat} {ls : List (Nat × Value)} {st : List Value} {h : AH} {k0 : Fin 4} {j i : Nat} {x : Int32} (hd : decode M.2.1 pc = .ok (.iload_n k0, 1)) (hi : (k0 : Nat) = i) (hj : ls[j]? = some (i, .int x)) (k : X M lv K T rc rs (pc + 1) ls (.int x :: st) h) : X M lv K T rc rs pc ls (st) h := by
  intro p l e R s m args below meth c D tc A n0 ad0 h0 Q ad H locs cells slots la C hR hE hst hls hla hc hs eR eT
  obtain ⟨hx, hb, hml, hret, hts, hown, hlk, htab, hns, hini, hfr, hlo⟩ := id C
  exact lv_iload_n hx hb hd hi (cvl_at hla hj) (k p l e R s m args below meth c D tc A n0 ad0 h0 Q ad H locs cells slots la C hR hE (List.forall_mem_cons.mpr ⟨trivial, (fun v hv => hst v hv)⟩) hls hla hc hs eR eT)
theorem X_iload {M : Mt} {lv : Nat} {K : Option Value → AH → Prop} {T : String → AH → Prop} {rc rs pc : Nat} {ls : List (Nat × Value)} {st : List Value} {h : AH} {j i : Nat} {x : Int32} (hd : decode M.2.1 pc = .ok (.iload i, 2)) (hj : ls[j]? = some (i, .int x)) (k : X M lv K T rc rs (pc + 2) ls (.int x :: st) h) : X M lv K T rc rs pc ls (st) h := by
  intro p l e R s m args below meth c D tc A n0 ad0 h0 Q ad H locs cells slots la C hR hE hst hls hla hc hs eR eT
  obtain ⟨hx, hb, hml, hret, hts, hown, hlk, htab, hns, hini, hfr, hlo⟩ := id C
  exact lv_iload hx hb hd (cvl_at hla hj) (k p l e R s m args below meth c D tc A n0 ad0 h0 Q ad H locs cells slots la C hR hE (List.forall_mem_cons.mpr ⟨trivial, (fun v hv => hst v hv)⟩) hls hla hc hs eR eT)
theorem X_istore_n {M : Mt} {lv : Nat} {K : Option Value → AH → Prop} {T : String → AH → Prop} {rc rs pc : Nat} {ls : List (Nat × Value)} {st : List Value} {h : AH} {k0 : Fin 4} {i : Nat} {x : Int32} {ls' : List (Nat × Value)} (hd : decode M.2.1 pc = .ok (.istore_n k0, 1)) (hi : (k0 : Nat) = i) (hn : i < M.2.2.1) (hl : lset ls i (.int x) = ls') (k : X M lv K T rc rs (pc + 1) ls' st h) : X M lv K T rc rs pc ls (.int x :: st) h := by
  intro p l e R s m args below meth c D tc A n0 ad0 h0 Q ad H locs cells slots la C hR hE hst hls hla hc hs eR eT
  obtain ⟨hx, hb, hml, hret, hts, hown, hlk, htab, hns, hini, hfr, hlo⟩ := id C
  exact lv_istore_n hx hb hd hi hla hn rfl (fun la' hla' => (k p l e R s m args below meth c D tc A n0 ad0 h0 Q ad H locs cells slots la' C hR hE (fun v hv => hst v (List.mem_cons_of_mem _ hv)) (lset_ok (v := .int x) hls trivial hl) (lset_has (v := .int x) hla' hl) hc hs eR eT))
theorem X_istore {M : Mt} {lv : Nat} {K : Option Value → AH → Prop} {T : String → AH → Prop} {rc rs pc : Nat} {ls : List (Nat × Value)} {st : List Value} {h : AH} {i : Nat} {x : Int32} {ls' : List (Nat × Value)} (hd : decode M.2.1 pc = .ok (.istore i, 2)) (hn : i < M.2.2.1) (hl : lset ls i (.int x) = ls') (k : X M lv K T rc rs (pc + 2) ls' st h) : X M lv K T rc rs pc ls (.int x :: st) h := by
  intro p l e R s m args below meth c D tc A n0 ad0 h0 Q ad H locs cells slots la C hR hE hst hls hla hc hs eR eT
  obtain ⟨hx, hb, hml, hret, hts, hown, hlk, htab, hns, hini, hfr, hlo⟩ := id C
  exact lv_istore hx hb hd hla hn rfl (fun la' hla' => (k p l e R s m args below meth c D tc A n0 ad0 h0 Q ad H locs cells slots la' C hR hE (fun v hv => hst v (List.mem_cons_of_mem _ hv)) (lset_ok (v := .int x) hls trivial hl) (lset_has (v := .int x) hla' hl) hc hs eR eT))
theorem X_lload_n {M : Mt} {lv : Nat} {K : Option Value → AH → Prop} {T : String → AH → Prop} {rc rs pc : Nat} {ls : List (Nat × Value)} {st : List Value} {h : AH} {k0 : Fin 4} {j i : Nat} {x : Int64} (hd : decode M.2.1 pc = .ok (.lload_n k0, 1)) (hi : (k0 : Nat) = i) (hj : ls[j]? = some (i, .long x)) (k : X M lv K T rc rs (pc + 1) ls (.long x :: st) h) : X M lv K T rc rs pc ls (st) h := by
  intro p l e R s m args below meth c D tc A n0 ad0 h0 Q ad H locs cells slots la C hR hE hst hls hla hc hs eR eT
  obtain ⟨hx, hb, hml, hret, hts, hown, hlk, htab, hns, hini, hfr, hlo⟩ := id C
  exact lv_lload_n hx hb hd hi (cvl_at hla hj) (k p l e R s m args below meth c D tc A n0 ad0 h0 Q ad H locs cells slots la C hR hE (List.forall_mem_cons.mpr ⟨trivial, (fun v hv => hst v hv)⟩) hls hla hc hs eR eT)
theorem X_lload {M : Mt} {lv : Nat} {K : Option Value → AH → Prop} {T : String → AH → Prop} {rc rs pc : Nat} {ls : List (Nat × Value)} {st : List Value} {h : AH} {j i : Nat} {x : Int64} (hd : decode M.2.1 pc = .ok (.lload i, 2)) (hj : ls[j]? = some (i, .long x)) (k : X M lv K T rc rs (pc + 2) ls (.long x :: st) h) : X M lv K T rc rs pc ls (st) h := by
  intro p l e R s m args below meth c D tc A n0 ad0 h0 Q ad H locs cells slots la C hR hE hst hls hla hc hs eR eT
  obtain ⟨hx, hb, hml, hret, hts, hown, hlk, htab, hns, hini, hfr, hlo⟩ := id C
  exact lv_lload hx hb hd (cvl_at hla hj) (k p l e R s m args below meth c D tc A n0 ad0 h0 Q ad H locs cells slots la C hR hE (List.forall_mem_cons.mpr ⟨trivial, (fun v hv => hst v hv)⟩) hls hla hc hs eR eT)
theorem X_lstore_n {M : Mt} {lv : Nat} {K : Option Value → AH → Prop} {T : String → AH → Prop} {rc rs pc : Nat} {ls : List (Nat × Value)} {st : List Value} {h : AH} {k0 : Fin 4} {i : Nat} {x : Int64} {ls' : List (Nat × Value)} (hd : decode M.2.1 pc = .ok (.lstore_n k0, 1)) (hi : (k0 : Nat) = i) (hn : i + 1 < M.2.2.1) (hl : lset2 ls i (.long x) = ls') (k : X M lv K T rc rs (pc + 1) ls' st h) : X M lv K T rc rs pc ls (.long x :: st) h := by
  intro p l e R s m args below meth c D tc A n0 ad0 h0 Q ad H locs cells slots la C hR hE hst hls hla hc hs eR eT
  obtain ⟨hx, hb, hml, hret, hts, hown, hlk, htab, hns, hini, hfr, hlo⟩ := id C
  exact lv_lstore_n hx hb hd hi hla hn rfl (fun la' hla' => (k p l e R s m args below meth c D tc A n0 ad0 h0 Q ad H locs cells slots la' C hR hE (fun v hv => hst v (List.mem_cons_of_mem _ hv)) (lset2_ok (v := .long x) hls trivial hl) (lset2_has (v := .long x) hla' hl) hc hs eR eT))
theorem X_lstore {M : Mt} {lv : Nat} {K : Option Value → AH → Prop} {T : String → AH → Prop} {rc rs pc : Nat} {ls : List (Nat × Value)} {st : List Value} {h : AH} {i : Nat} {x : Int64} {ls' : List (Nat × Value)} (hd : decode M.2.1 pc = .ok (.lstore i, 2)) (hn : i + 1 < M.2.2.1) (hl : lset2 ls i (.long x) = ls') (k : X M lv K T rc rs (pc + 2) ls' st h) : X M lv K T rc rs pc ls (.long x :: st) h := by
  intro p l e R s m args below meth c D tc A n0 ad0 h0 Q ad H locs cells slots la C hR hE hst hls hla hc hs eR eT
  obtain ⟨hx, hb, hml, hret, hts, hown, hlk, htab, hns, hini, hfr, hlo⟩ := id C
  exact lv_lstore hx hb hd hla hn rfl (fun la' hla' => (k p l e R s m args below meth c D tc A n0 ad0 h0 Q ad H locs cells slots la' C hR hE (fun v hv => hst v (List.mem_cons_of_mem _ hv)) (lset2_ok (v := .long x) hls trivial hl) (lset2_has (v := .long x) hla' hl) hc hs eR eT))
theorem X_fload_n {M : Mt} {lv : Nat} {K : Option Value → AH → Prop} {T : String → AH → Prop} {rc rs pc : Nat} {ls : List (Nat × Value)} {st : List Value} {h : AH} {k0 : Fin 4} {j i : Nat} {x : UInt32} (hd : decode M.2.1 pc = .ok (.fload_n k0, 1)) (hi : (k0 : Nat) = i) (hj : ls[j]? = some (i, .float x)) (k : X M lv K T rc rs (pc + 1) ls (.float x :: st) h) : X M lv K T rc rs pc ls (st) h := by
  intro p l e R s m args below meth c D tc A n0 ad0 h0 Q ad H locs cells slots la C hR hE hst hls hla hc hs eR eT
  obtain ⟨hx, hb, hml, hret, hts, hown, hlk, htab, hns, hini, hfr, hlo⟩ := id C
  exact lv_fload_n hx hb hd hi (cvl_at hla hj) (k p l e R s m args below meth c D tc A n0 ad0 h0 Q ad H locs cells slots la C hR hE (List.forall_mem_cons.mpr ⟨trivial, (fun v hv => hst v hv)⟩) hls hla hc hs eR eT)
theorem X_fload {M : Mt} {lv : Nat} {K : Option Value → AH → Prop} {T : String → AH → Prop} {rc rs pc : Nat} {ls : List (Nat × Value)} {st : List Value} {h : AH} {j i : Nat} {x : UInt32} (hd : decode M.2.1 pc = .ok (.fload i, 2)) (hj : ls[j]? = some (i, .float x)) (k : X M lv K T rc rs (pc + 2) ls (.float x :: st) h) : X M lv K T rc rs pc ls (st) h := by
  intro p l e R s m args below meth c D tc A n0 ad0 h0 Q ad H locs cells slots la C hR hE hst hls hla hc hs eR eT
  obtain ⟨hx, hb, hml, hret, hts, hown, hlk, htab, hns, hini, hfr, hlo⟩ := id C
  exact lv_fload hx hb hd (cvl_at hla hj) (k p l e R s m args below meth c D tc A n0 ad0 h0 Q ad H locs cells slots la C hR hE (List.forall_mem_cons.mpr ⟨trivial, (fun v hv => hst v hv)⟩) hls hla hc hs eR eT)
theorem X_fstore_n {M : Mt} {lv : Nat} {K : Option Value → AH → Prop} {T : String → AH → Prop} {rc rs pc : Nat} {ls : List (Nat × Value)} {st : List Value} {h : AH} {k0 : Fin 4} {i : Nat} {x : UInt32} {ls' : List (Nat × Value)} (hd : decode M.2.1 pc = .ok (.fstore_n k0, 1)) (hi : (k0 : Nat) = i) (hn : i < M.2.2.1) (hl : lset ls i (.float x) = ls') (k : X M lv K T rc rs (pc + 1) ls' st h) : X M lv K T rc rs pc ls (.float x :: st) h := by
  intro p l e R s m args below meth c D tc A n0 ad0 h0 Q ad H locs cells slots la C hR hE hst hls hla hc hs eR eT
  obtain ⟨hx, hb, hml, hret, hts, hown, hlk, htab, hns, hini, hfr, hlo⟩ := id C
  exact lv_fstore_n hx hb hd hi hla hn rfl (fun la' hla' => (k p l e R s m args below meth c D tc A n0 ad0 h0 Q ad H locs cells slots la' C hR hE (fun v hv => hst v (List.mem_cons_of_mem _ hv)) (lset_ok (v := .float x) hls trivial hl) (lset_has (v := .float x) hla' hl) hc hs eR eT))
theorem X_fstore {M : Mt} {lv : Nat} {K : Option Value → AH → Prop} {T : String → AH → Prop} {rc rs pc : Nat} {ls : List (Nat × Value)} {st : List Value} {h : AH} {i : Nat} {x : UInt32} {ls' : List (Nat × Value)} (hd : decode M.2.1 pc = .ok (.fstore i, 2)) (hn : i < M.2.2.1) (hl : lset ls i (.float x) = ls') (k : X M lv K T rc rs (pc + 2) ls' st h) : X M lv K T rc rs pc ls (.float x :: st) h := by
  intro p l e R s m args below meth c D tc A n0 ad0 h0 Q ad H locs cells slots la C hR hE hst hls hla hc hs eR eT
  obtain ⟨hx, hb, hml, hret, hts, hown, hlk, htab, hns, hini, hfr, hlo⟩ := id C
  exact lv_fstore hx hb hd hla hn rfl (fun la' hla' => (k p l e R s m args below meth c D tc A n0 ad0 h0 Q ad H locs cells slots la' C hR hE (fun v hv => hst v (List.mem_cons_of_mem _ hv)) (lset_ok (v := .float x) hls trivial hl) (lset_has (v := .float x) hla' hl) hc hs eR eT))
theorem X_dload_n {M : Mt} {lv : Nat} {K : Option Value → AH → Prop} {T : String → AH → Prop} {rc rs pc : Nat} {ls : List (Nat × Value)} {st : List Value} {h : AH} {k0 : Fin 4} {j i : Nat} {x : UInt64} (hd : decode M.2.1 pc = .ok (.dload_n k0, 1)) (hi : (k0 : Nat) = i) (hj : ls[j]? = some (i, .double x)) (k : X M lv K T rc rs (pc + 1) ls (.double x :: st) h) : X M lv K T rc rs pc ls (st) h := by
  intro p l e R s m args below meth c D tc A n0 ad0 h0 Q ad H locs cells slots la C hR hE hst hls hla hc hs eR eT
  obtain ⟨hx, hb, hml, hret, hts, hown, hlk, htab, hns, hini, hfr, hlo⟩ := id C
  exact lv_dload_n hx hb hd hi (cvl_at hla hj) (k p l e R s m args below meth c D tc A n0 ad0 h0 Q ad H locs cells slots la C hR hE (List.forall_mem_cons.mpr ⟨trivial, (fun v hv => hst v hv)⟩) hls hla hc hs eR eT)
theorem X_dload {M : Mt} {lv : Nat} {K : Option Value → AH → Prop} {T : String → AH → Prop} {rc rs pc : Nat} {ls : List (Nat × Value)} {st : List Value} {h : AH} {j i : Nat} {x : UInt64} (hd : decode M.2.1 pc = .ok (.dload i, 2)) (hj : ls[j]? = some (i, .double x)) (k : X M lv K T rc rs (pc + 2) ls (.double x :: st) h) : X M lv K T rc rs pc ls (st) h := by
  intro p l e R s m args below meth c D tc A n0 ad0 h0 Q ad H locs cells slots la C hR hE hst hls hla hc hs eR eT
  obtain ⟨hx, hb, hml, hret, hts, hown, hlk, htab, hns, hini, hfr, hlo⟩ := id C
  exact lv_dload hx hb hd (cvl_at hla hj) (k p l e R s m args below meth c D tc A n0 ad0 h0 Q ad H locs cells slots la C hR hE (List.forall_mem_cons.mpr ⟨trivial, (fun v hv => hst v hv)⟩) hls hla hc hs eR eT)
theorem X_dstore_n {M : Mt} {lv : Nat} {K : Option Value → AH → Prop} {T : String → AH → Prop} {rc rs pc : Nat} {ls : List (Nat × Value)} {st : List Value} {h : AH} {k0 : Fin 4} {i : Nat} {x : UInt64} {ls' : List (Nat × Value)} (hd : decode M.2.1 pc = .ok (.dstore_n k0, 1)) (hi : (k0 : Nat) = i) (hn : i + 1 < M.2.2.1) (hl : lset2 ls i (.double x) = ls') (k : X M lv K T rc rs (pc + 1) ls' st h) : X M lv K T rc rs pc ls (.double x :: st) h := by
  intro p l e R s m args below meth c D tc A n0 ad0 h0 Q ad H locs cells slots la C hR hE hst hls hla hc hs eR eT
  obtain ⟨hx, hb, hml, hret, hts, hown, hlk, htab, hns, hini, hfr, hlo⟩ := id C
  exact lv_dstore_n hx hb hd hi hla hn rfl (fun la' hla' => (k p l e R s m args below meth c D tc A n0 ad0 h0 Q ad H locs cells slots la' C hR hE (fun v hv => hst v (List.mem_cons_of_mem _ hv)) (lset2_ok (v := .double x) hls trivial hl) (lset2_has (v := .double x) hla' hl) hc hs eR eT))
theorem X_dstore {M : Mt} {lv : Nat} {K : Option Value → AH → Prop} {T : String → AH → Prop} {rc rs pc : Nat} {ls : List (Nat × Value)} {st : List Value} {h : AH} {i : Nat} {x : UInt64} {ls' : List (Nat × Value)} (hd : decode M.2.1 pc = .ok (.dstore i, 2)) (hn : i + 1 < M.2.2.1) (hl : lset2 ls i (.double x) = ls') (k : X M lv K T rc rs (pc + 2) ls' st h) : X M lv K T rc rs pc ls (.double x :: st) h := by
  intro p l e R s m args below meth c D tc A n0 ad0 h0 Q ad H locs cells slots la C hR hE hst hls hla hc hs eR eT
  obtain ⟨hx, hb, hml, hret, hts, hown, hlk, htab, hns, hini, hfr, hlo⟩ := id C
  exact lv_dstore hx hb hd hla hn rfl (fun la' hla' => (k p l e R s m args below meth c D tc A n0 ad0 h0 Q ad H locs cells slots la' C hR hE (fun v hv => hst v (List.mem_cons_of_mem _ hv)) (lset2_ok (v := .double x) hls trivial hl) (lset2_has (v := .double x) hla' hl) hc hs eR eT))
theorem X_aload_n {M : Mt} {lv : Nat} {K : Option Value → AH → Prop} {T : String → AH → Prop} {rc rs pc : Nat} {ls : List (Nat × Value)} {st : List Value} {h : AH} {k0 : Fin 4} {j i a : Nat} (hd : decode M.2.1 pc = .ok (.aload_n k0, 1)) (hi : (k0 : Nat) = i) (hj : ls[j]? = some (i, .ref a)) (k : X M lv K T rc rs (pc + 1) ls (.ref a :: st) h) : X M lv K T rc rs pc ls st h := by
  intro p l e R s m args below meth c D tc A n0 ad0 h0 Q ad H locs cells slots la C hR hE hst hls hla hc hs eR eT
  obtain ⟨hx, hb, hml, hret, hts, hown, hlk, htab, hns, hini, hfr, hlo⟩ := id C
  have k9 := (k p l e R s m args below meth c D tc A n0 ad0 h0 Q ad H locs cells slots la C hR hE (List.forall_mem_cons.mpr ⟨hls _ (List.mem_of_getElem? hj), hst⟩) hls hla hc hs eR eT)
  have h9 := cvl_at hla hj
  rw [List.map_cons] at k9
  by_cases z : a = 0
  · subst z
    exact lv_aload_nN hx hb hd hi h9 k9
  · rw [cv_ref z] at k9 h9
    exact lv_aload_n hx hb hd hi h9 k9
theorem X_aload {M : Mt} {lv : Nat} {K : Option Value → AH → Prop} {T : String → AH → Prop} {rc rs pc : Nat} {ls : List (Nat × Value)} {st : List Value} {h : AH} {j i a : Nat} (hd : decode M.2.1 pc = .ok (.aload i, 2)) (hj : ls[j]? = some (i, .ref a)) (k : X M lv K T rc rs (pc + 2) ls (.ref a :: st) h) : X M lv K T rc rs pc ls st h := by
  intro p l e R s m args below meth c D tc A n0 ad0 h0 Q ad H locs cells slots la C hR hE hst hls hla hc hs eR eT
  obtain ⟨hx, hb, hml, hret, hts, hown, hlk, htab, hns, hini, hfr, hlo⟩ := id C
  have k9 := (k p l e R s m args below meth c D tc A n0 ad0 h0 Q ad H locs cells slots la C hR hE (List.forall_mem_cons.mpr ⟨hls _ (List.mem_of_getElem? hj), hst⟩) hls hla hc hs eR eT)
  have h9 := cvl_at hla hj
  rw [List.map_cons] at k9
  by_cases z : a = 0
  · subst z
    exact lv_aloadN hx hb hd h9 k9
  · rw [cv_ref z] at k9 h9
    exact lv_aload hx hb hd h9 k9
theorem X_astore_n {M : Mt} {lv : Nat} {K : Option Value → AH → Prop} {T : String → AH → Prop} {rc rs pc : Nat} {ls : List (Nat × Value)} {st : List Value} {h : AH} {k0 : Fin 4} {i a : Nat} {ls' : List (Nat × Value)} (hd : decode M.2.1 pc = .ok (.astore_n k0, 1)) (hi : (k0 : Nat) = i) (hn : i < M.2.2.1) (hl : lset ls i (.ref a) = ls') (k : X M lv K T rc rs (pc + 1) ls' st h) : X M lv K T rc rs pc ls (.ref a :: st) h := by
  intro p l e R s m args below meth c D tc A n0 ad0 h0 Q ad H locs cells slots la C hR hE hst hls hla hc hs eR eT
  obtain ⟨hx, hb, hml, hret, hts, hown, hlk, htab, hns, hini, hfr, hlo⟩ := id C
  have k9 := fun la' hla' => (k p l e R s m args below meth c D tc A n0 ad0 h0 Q ad H locs cells slots la' C hR hE (fun v hv => hst v (List.mem_cons_of_mem _ hv)) (lset_ok hls (hst _ List.mem_cons_self) hl) (lset_has (v := .ref a) hla' hl) hc hs eR eT)
  rw [List.map_cons]
  by_cases z : a = 0
  · subst z
    exact lv_astore_nN hx hb hd hi hla hn rfl (fun la' hla' => k9 la' hla')
  · rw [cv_ref z] at k9 ⊢
    exact lv_astore_n hx hb hd hi hla hn rfl (fun la' hla' => k9 la' hla')
theorem X_astore {M : Mt} {lv : Nat} {K : Option Value → AH → Prop} {T : String → AH → Prop} {rc rs pc : Nat} {ls : List (Nat × Value)} {st : List Value} {h : AH} {i a : Nat} {ls' : List (Nat × Value)} (hd : decode M.2.1 pc = .ok (.astore i, 2)) (hn : i < M.2.2.1) (hl : lset ls i (.ref a) = ls') (k : X M lv K T rc rs (pc + 2) ls' st h) : X M lv K T rc rs pc ls (.ref a :: st) h := by
  intro p l e R s m args below meth c D tc A n0 ad0 h0 Q ad H locs cells slots la C hR hE hst hls hla hc hs eR eT
  obtain ⟨hx, hb, hml, hret, hts, hown, hlk, htab, hns, hini, hfr, hlo⟩ := id C
  have k9 := fun la' hla' => (k p l e R s m args below meth c D tc A n0 ad0 h0 Q ad H locs cells slots la' C hR hE (fun v hv => hst v (List.mem_cons_of_mem _ hv)) (lset_ok hls (hst _ List.mem_cons_self) hl) (lset_has (v := .ref a) hla' hl) hc hs eR eT)
  rw [List.map_cons]
  by_cases z : a = 0
  · subst z
    exact lv_astoreN hx hb hd hla hn rfl (fun la' hla' => k9 la' hla')
  · rw [cv_ref z] at k9 ⊢
    exact lv_astore hx hb hd hla hn rfl (fun la' hla' => k9 la' hla')
theorem X_iinc {M : Mt} {lv : Nat} {K : Option Value → AH → Prop} {T : String → AH → Prop} {rc rs pc : Nat} {ls : List (Nat × Value)} {st : List Value} {h : AH} {i j : Nat} {n : Int} {x v : Int32} {ls' : List (Nat × Value)} (hd : decode M.2.1 pc = .ok (.iinc i n, 3)) (hj : ls[j]? = some (i, .int x)) (hv : x + Int32.ofInt n = v) (hn : i < M.2.2.1) (hl : lset ls i (.int v) = ls') (k : X M lv K T rc rs (pc + 3) ls' st h) : X M lv K T rc rs pc ls st h := by
  intro p l e R s m args below meth c D tc A n0 ad0 h0 Q ad H locs cells slots la C hR hE hst hls hla hc hs eR eT
  obtain ⟨hx, hb, hml, hret, hts, hown, hlk, htab, hns, hini, hfr, hlo⟩ := id C
  exact lv_iinc hx hb hd hla (k := j) (by unfold cvl; rw [List.getElem?_map, hj]; rfl) hv hn rfl (fun la' hla' => (k p l e R s m args below meth c D tc A n0 ad0 h0 Q ad H locs cells slots la' C hR hE hst (lset_ok (v := .int v) hls trivial hl) (lset_has (v := .int v) hla' hl) hc hs eR eT))
theorem X_iadd {M : Mt} {lv : Nat} {K : Option Value → AH → Prop} {T : String → AH → Prop} {rc rs pc : Nat} {ls : List (Nat × Value)} {st : List Value} {h : AH} {x y : Int32} (hd : decode M.2.1 pc = .ok (.iadd, 1)) (k : X M lv K T rc rs (pc + 1) ls (.int (x + y) :: st) h) : X M lv K T rc rs pc ls (.int y :: .int x :: st) h := by
  intro p l e R s m args below meth c D tc A n0 ad0 h0 Q ad H locs cells slots la C hR hE hst hls hla hc hs eR eT
  obtain ⟨hx, hb, hml, hret, hts, hown, hlk, htab, hns, hini, hfr, hlo⟩ := id C
  exact lv_iadd hx hb hd (k p l e R s m args below meth c D tc A n0 ad0 h0 Q ad H locs cells slots la C hR hE (List.forall_mem_cons.mpr ⟨trivial, (fun v hv => hst v (List.mem_cons_of_mem _ (List.mem_cons_of_mem _ hv)))⟩) hls hla hc hs eR eT)
theorem X_isub {M : Mt} {lv : Nat} {K : Option Value → AH → Prop} {T : String → AH → Prop} {rc rs pc : Nat} {ls : List (Nat × Value)} {st : List Value} {h : AH} {x y : Int32} (hd : decode M.2.1 pc = .ok (.isub, 1)) (k : X M lv K T rc rs (pc + 1) ls (.int (x - y) :: st) h) : X M lv K T rc rs pc ls (.int y :: .int x :: st) h := by
  intro p l e R s m args below meth c D tc A n0 ad0 h0 Q ad H locs cells slots la C hR hE hst hls hla hc hs eR eT
  obtain ⟨hx, hb, hml, hret, hts, hown, hlk, htab, hns, hini, hfr, hlo⟩ := id C
  exact lv_isub hx hb hd (k p l e R s m args below meth c D tc A n0 ad0 h0 Q ad H locs cells slots la C hR hE (List.forall_mem_cons.mpr ⟨trivial, (fun v hv => hst v (List.mem_cons_of_mem _ (List.mem_cons_of_mem _ hv)))⟩) hls hla hc hs eR eT)
theorem X_imul {M : Mt} {lv : Nat} {K : Option Value → AH → Prop} {T : String → AH → Prop} {rc rs pc : Nat} {ls : List (Nat × Value)} {st : List Value} {h : AH} {x y : Int32} (hd : decode M.2.1 pc = .ok (.imul, 1)) (k : X M lv K T rc rs (pc + 1) ls (.int (x * y) :: st) h) : X M lv K T rc rs pc ls (.int y :: .int x :: st) h := by
  intro p l e R s m args below meth c D tc A n0 ad0 h0 Q ad H locs cells slots la C hR hE hst hls hla hc hs eR eT
  obtain ⟨hx, hb, hml, hret, hts, hown, hlk, htab, hns, hini, hfr, hlo⟩ := id C
  exact lv_imul hx hb hd (k p l e R s m args below meth c D tc A n0 ad0 h0 Q ad H locs cells slots la C hR hE (List.forall_mem_cons.mpr ⟨trivial, (fun v hv => hst v (List.mem_cons_of_mem _ (List.mem_cons_of_mem _ hv)))⟩) hls hla hc hs eR eT)
theorem X_iand {M : Mt} {lv : Nat} {K : Option Value → AH → Prop} {T : String → AH → Prop} {rc rs pc : Nat} {ls : List (Nat × Value)} {st : List Value} {h : AH} {x y : Int32} (hd : decode M.2.1 pc = .ok (.iand, 1)) (k : X M lv K T rc rs (pc + 1) ls (.int (x &&& y) :: st) h) : X M lv K T rc rs pc ls (.int y :: .int x :: st) h := by
  intro p l e R s m args below meth c D tc A n0 ad0 h0 Q ad H locs cells slots la C hR hE hst hls hla hc hs eR eT
  obtain ⟨hx, hb, hml, hret, hts, hown, hlk, htab, hns, hini, hfr, hlo⟩ := id C
  exact lv_iand hx hb hd (k p l e R s m args below meth c D tc A n0 ad0 h0 Q ad H locs cells slots la C hR hE (List.forall_mem_cons.mpr ⟨trivial, (fun v hv => hst v (List.mem_cons_of_mem _ (List.mem_cons_of_mem _ hv)))⟩) hls hla hc hs eR eT)
theorem X_ior {M : Mt} {lv : Nat} {K : Option Value → AH → Prop} {T : String → AH → Prop} {rc rs pc : Nat} {ls : List (Nat × Value)} {st : List Value} {h : AH} {x y : Int32} (hd : decode M.2.1 pc = .ok (.ior, 1)) (k : X M lv K T rc rs (pc + 1) ls (.int (x ||| y) :: st) h) : X M lv K T rc rs pc ls (.int y :: .int x :: st) h := by
  intro p l e R s m args below meth c D tc A n0 ad0 h0 Q ad H locs cells slots la C hR hE hst hls hla hc hs eR eT
  obtain ⟨hx, hb, hml, hret, hts, hown, hlk, htab, hns, hini, hfr, hlo⟩ := id C
  exact lv_ior hx hb hd (k p l e R s m args below meth c D tc A n0 ad0 h0 Q ad H locs cells slots la C hR hE (List.forall_mem_cons.mpr ⟨trivial, (fun v hv => hst v (List.mem_cons_of_mem _ (List.mem_cons_of_mem _ hv)))⟩) hls hla hc hs eR eT)
theorem X_ixor {M : Mt} {lv : Nat} {K : Option Value → AH → Prop} {T : String → AH → Prop} {rc rs pc : Nat} {ls : List (Nat × Value)} {st : List Value} {h : AH} {x y : Int32} (hd : decode M.2.1 pc = .ok (.ixor, 1)) (k : X M lv K T rc rs (pc + 1) ls (.int (x ^^^ y) :: st) h) : X M lv K T rc rs pc ls (.int y :: .int x :: st) h := by
  intro p l e R s m args below meth c D tc A n0 ad0 h0 Q ad H locs cells slots la C hR hE hst hls hla hc hs eR eT
  obtain ⟨hx, hb, hml, hret, hts, hown, hlk, htab, hns, hini, hfr, hlo⟩ := id C
  exact lv_ixor hx hb hd (k p l e R s m args below meth c D tc A n0 ad0 h0 Q ad H locs cells slots la C hR hE (List.forall_mem_cons.mpr ⟨trivial, (fun v hv => hst v (List.mem_cons_of_mem _ (List.mem_cons_of_mem _ hv)))⟩) hls hla hc hs eR eT)
theorem X_ishl {M : Mt} {lv : Nat} {K : Option Value → AH → Prop} {T : String → AH → Prop} {rc rs pc : Nat} {ls : List (Nat × Value)} {st : List Value} {h : AH} {x y : Int32} (hd : decode M.2.1 pc = .ok (.ishl, 1)) (k : X M lv K T rc rs (pc + 1) ls (.int (x <<< (y &&& 31)) :: st) h) : X M lv K T rc rs pc ls (.int y :: .int x :: st) h := by
  intro p l e R s m args below meth c D tc A n0 ad0 h0 Q ad H locs cells slots la C hR hE hst hls hla hc hs eR eT
  obtain ⟨hx, hb, hml, hret, hts, hown, hlk, htab, hns, hini, hfr, hlo⟩ := id C
  exact lv_ishl hx hb hd (k p l e R s m args below meth c D tc A n0 ad0 h0 Q ad H locs cells slots la C hR hE (List.forall_mem_cons.mpr ⟨trivial, (fun v hv => hst v (List.mem_cons_of_mem _ (List.mem_cons_of_mem _ hv)))⟩) hls hla hc hs eR eT)
theorem X_ishr {M : Mt} {lv : Nat} {K : Option Value → AH → Prop} {T : String → AH → Prop} {rc rs pc : Nat} {ls : List (Nat × Value)} {st : List Value} {h : AH} {x y : Int32} (hd : decode M.2.1 pc = .ok (.ishr, 1)) (k : X M lv K T rc rs (pc + 1) ls (.int (x >>> (y &&& 31)) :: st) h) : X M lv K T rc rs pc ls (.int y :: .int x :: st) h := by
  intro p l e R s m args below meth c D tc A n0 ad0 h0 Q ad H locs cells slots la C hR hE hst hls hla hc hs eR eT
  obtain ⟨hx, hb, hml, hret, hts, hown, hlk, htab, hns, hini, hfr, hlo⟩ := id C
  exact lv_ishr hx hb hd (k p l e R s m args below meth c D tc A n0 ad0 h0 Q ad H locs cells slots la C hR hE (List.forall_mem_cons.mpr ⟨trivial, (fun v hv => hst v (List.mem_cons_of_mem _ (List.mem_cons_of_mem _ hv)))⟩) hls hla hc hs eR eT)
theorem X_iushr {M : Mt} {lv : Nat} {K : Option Value → AH → Prop} {T : String → AH → Prop} {rc rs pc : Nat} {ls : List (Nat × Value)} {st : List Value} {h : AH} {x y v : Int32} (hd : decode M.2.1 pc = .ok (.iushr, 1)) (hv : (x.toUInt32 >>> (y.toUInt32 &&& Int32.toUInt32 31)).toInt32 = v) (k : X M lv K T rc rs (pc + 1) ls (.int v :: st) h) : X M lv K T rc rs pc ls (.int y :: .int x :: st) h := by
  intro p l e R s m args below meth c D tc A n0 ad0 h0 Q ad H locs cells slots la C hR hE hst hls hla hc hs eR eT
  obtain ⟨hx, hb, hml, hret, hts, hown, hlk, htab, hns, hini, hfr, hlo⟩ := id C
  exact lv_iushr hx hb hd hv (k p l e R s m args below meth c D tc A n0 ad0 h0 Q ad H locs cells slots la C hR hE (List.forall_mem_cons.mpr ⟨trivial, (fun v hv => hst v (List.mem_cons_of_mem _ (List.mem_cons_of_mem _ hv)))⟩) hls hla hc hs eR eT)
theorem X_idiv {M : Mt} {lv : Nat} {K : Option Value → AH → Prop} {T : String → AH → Prop} {rc rs pc : Nat} {ls : List (Nat × Value)} {st : List Value} {h : AH} {x y : Int32} (hd : decode M.2.1 pc = .ok (.idiv, 1)) (hne : ¬ y = 0) (k : X M lv K T rc rs (pc + 1) ls (.int (x / y) :: st) h) : X M lv K T rc rs pc ls (.int y :: .int x :: st) h := by
  intro p l e R s m args below meth c D tc A n0 ad0 h0 Q ad H locs cells slots la C hR hE hst hls hla hc hs eR eT
  obtain ⟨hx, hb, hml, hret, hts, hown, hlk, htab, hns, hini, hfr, hlo⟩ := id C
  exact lv_idiv hx hb hd hne (k p l e R s m args below meth c D tc A n0 ad0 h0 Q ad H locs cells slots la C hR hE (List.forall_mem_cons.mpr ⟨trivial, (fun v hv => hst v (List.mem_cons_of_mem _ (List.mem_cons_of_mem _ hv)))⟩) hls hla hc hs eR eT)
theorem X_irem {M : Mt} {lv : Nat} {K : Option Value → AH → Prop} {T : String → AH → Prop} {rc rs pc : Nat} {ls : List (Nat × Value)} {st : List Value} {h : AH} {x y : Int32} (hd : decode M.2.1 pc = .ok (.irem, 1)) (hne : ¬ y = 0) (k : X M lv K T rc rs (pc + 1) ls (.int (x - x / y * y) :: st) h) : X M lv K T rc rs pc ls (.int y :: .int x :: st) h := by
  intro p l e R s m args below meth c D tc A n0 ad0 h0 Q ad H locs cells slots la C hR hE hst hls hla hc hs eR eT
  obtain ⟨hx, hb, hml, hret, hts, hown, hlk, htab, hns, hini, hfr, hlo⟩ := id C
  exact lv_irem hx hb hd hne (k p l e R s m args below meth c D tc A n0 ad0 h0 Q ad H locs cells slots la C hR hE (List.forall_mem_cons.mpr ⟨trivial, (fun v hv => hst v (List.mem_cons_of_mem _ (List.mem_cons_of_mem _ hv)))⟩) hls hla hc hs eR eT)
theorem X_ineg {M : Mt} {lv : Nat} {K : Option Value → AH → Prop} {T : String → AH → Prop} {rc rs pc : Nat} {ls : List (Nat × Value)} {st : List Value} {h : AH} {x : Int32} (hd : decode M.2.1 pc = .ok (.ineg, 1)) (k : X M lv K T rc rs (pc + 1) ls (.int (-x) :: st) h) : X M lv K T rc rs pc ls (.int x :: st) h := by
  intro p l e R s m args below meth c D tc A n0 ad0 h0 Q ad H locs cells slots la C hR hE hst hls hla hc hs eR eT
  obtain ⟨hx, hb, hml, hret, hts, hown, hlk, htab, hns, hini, hfr, hlo⟩ := id C
  exact lv_ineg hx hb hd (k p l e R s m args below meth c D tc A n0 ad0 h0 Q ad H locs cells slots la C hR hE (List.forall_mem_cons.mpr ⟨trivial, (fun v hv => hst v (List.mem_cons_of_mem _ hv))⟩) hls hla hc hs eR eT)
theorem X_ladd {M : Mt} {lv : Nat} {K : Option Value → AH → Prop} {T : String → AH → Prop} {rc rs pc : Nat} {ls : List (Nat × Value)} {st : List Value} {h : AH} {x y : Int64} (hd : decode M.2.1 pc = .ok (.ladd, 1)) (k : X M lv K T rc rs (pc + 1) ls (.long (x + y) :: st) h) : X M lv K T rc rs pc ls (.long y :: .long x :: st) h := by
  intro p l e R s m args below meth c D tc A n0 ad0 h0 Q ad H locs cells slots la C hR hE hst hls hla hc hs eR eT
  obtain ⟨hx, hb, hml, hret, hts, hown, hlk, htab, hns, hini, hfr, hlo⟩ := id C
  exact lv_ladd hx hb hd (k p l e R s m args below meth c D tc A n0 ad0 h0 Q ad H locs cells slots la C hR hE (List.forall_mem_cons.mpr ⟨trivial, (fun v hv => hst v (List.mem_cons_of_mem _ (List.mem_cons_of_mem _ hv)))⟩) hls hla hc hs eR eT)
theorem X_lcmp {M : Mt} {lv : Nat} {K : Option Value → AH → Prop} {T : String → AH → Prop} {rc rs pc : Nat} {ls : List (Nat × Value)} {st : List Value} {h : AH} {x y : Int64} (hd : decode M.2.1 pc = .ok (.lcmp, 1)) (k : X M lv K T rc rs (pc + 1) ls (.int (lg_cmp x y) :: st) h) : X M lv K T rc rs pc ls (.long y :: .long x :: st) h := by
  intro p l e R s m args below meth c D tc A n0 ad0 h0 Q ad H locs cells slots la C hR hE hst hls hla hc hs eR eT
  obtain ⟨hx, hb, hml, hret, hts, hown, hlk, htab, hns, hini, hfr, hlo⟩ := id C
  exact W.lcmp hx hb hd (k p l e R s m args below meth c D tc A n0 ad0 h0 Q ad H locs cells slots la C hR hE (List.forall_mem_cons.mpr ⟨trivial, (fun v hv => hst v (List.mem_cons_of_mem _ (List.mem_cons_of_mem _ hv)))⟩) hls hla hc hs eR eT)
theorem X_i2l {M : Mt} {lv : Nat} {K : Option Value → AH → Prop} {T : String → AH → Prop} {rc rs pc : Nat} {ls : List (Nat × Value)} {st : List Value} {h : AH} {x : Int32} (hd : decode M.2.1 pc = .ok (.i2l, 1)) (k : X M lv K T rc rs (pc + 1) ls (.long x.toInt64 :: st) h) : X M lv K T rc rs pc ls (.int x :: st) h := by
  intro p l e R s m args below meth c D tc A n0 ad0 h0 Q ad H locs cells slots la C hR hE hst hls hla hc hs eR eT
  obtain ⟨hx, hb, hml, hret, hts, hown, hlk, htab, hns, hini, hfr, hlo⟩ := id C
  exact lv_i2l hx hb hd rfl (k p l e R s m args below meth c D tc A n0 ad0 h0 Q ad H locs cells slots la C hR hE (List.forall_mem_cons.mpr ⟨trivial, (fun v hv => hst v (List.mem_cons_of_mem _ hv))⟩) hls hla hc hs eR eT)
theorem X_i2c {M : Mt} {lv : Nat} {K : Option Value → AH → Prop} {T : String → AH → Prop} {rc rs pc : Nat} {ls : List (Nat × Value)} {st : List Value} {h : AH} {x : Int32} (hd : decode M.2.1 pc = .ok (.i2c, 1)) (k : X M lv K T rc rs (pc + 1) ls (.int (x.toUInt32 % 65536).toInt32 :: st) h) : X M lv K T rc rs pc ls (.int x :: st) h := by
  intro p l e R s m args below meth c D tc A n0 ad0 h0 Q ad H locs cells slots la C hR hE hst hls hla hc hs eR eT
  obtain ⟨hx, hb, hml, hret, hts, hown, hlk, htab, hns, hini, hfr, hlo⟩ := id C
  exact lv_i2c hx hb hd rfl (k p l e R s m args below meth c D tc A n0 ad0 h0 Q ad H locs cells slots la C hR hE (List.forall_mem_cons.mpr ⟨trivial, (fun v hv => hst v (List.mem_cons_of_mem _ hv))⟩) hls hla hc hs eR eT)
theorem X_i2b {M : Mt} {lv : Nat} {K : Option Value → AH → Prop} {T : String → AH → Prop} {rc rs pc : Nat} {ls : List (Nat × Value)} {st : List Value} {h : AH} {x : Int32} (hd : decode M.2.1 pc = .ok (.i2b, 1)) (k : X M lv K T rc rs (pc + 1) ls (.int x.toInt8.toInt32 :: st) h) : X M lv K T rc rs pc ls (.int x :: st) h := by
  intro p l e R s m args below meth c D tc A n0 ad0 h0 Q ad H locs cells slots la C hR hE hst hls hla hc hs eR eT
  obtain ⟨hx, hb, hml, hret, hts, hown, hlk, htab, hns, hini, hfr, hlo⟩ := id C
  exact lv_i2b hx hb hd rfl (k p l e R s m args below meth c D tc A n0 ad0 h0 Q ad H locs cells slots la C hR hE (List.forall_mem_cons.mpr ⟨trivial, (fun v hv => hst v (List.mem_cons_of_mem _ hv))⟩) hls hla hc hs eR eT)
theorem X_i2d {M : Mt} {lv : Nat} {K : Option Value → AH → Prop} {T : String → AH → Prop} {rc rs pc : Nat} {ls : List (Nat × Value)} {st : List Value} {h : AH} {x : Int32} (hd : decode M.2.1 pc = .ok (.i2d, 1)) (k : X M lv K T rc rs (pc + 1) ls (.double (FP.i2d x) :: st) h) : X M lv K T rc rs pc ls (.int x :: st) h := by
  intro p l e R s m args below meth c D tc A n0 ad0 h0 Q ad H locs cells slots la C hR hE hst hls hla hc hs eR eT
  obtain ⟨hx, hb, hml, hret, hts, hown, hlk, htab, hns, hini, hfr, hlo⟩ := id C
  exact lv_i2d hx hb hd (k p l e R s m args below meth c D tc A n0 ad0 h0 Q ad H locs cells slots la C hR hE (List.forall_mem_cons.mpr ⟨trivial, (fun v hv => hst v (List.mem_cons_of_mem _ hv))⟩) hls hla hc hs eR eT)
theorem X_l2d {M : Mt} {lv : Nat} {K : Option Value → AH → Prop} {T : String → AH → Prop} {rc rs pc : Nat} {ls : List (Nat × Value)} {st : List Value} {h : AH} {x : Int64} (hd : decode M.2.1 pc = .ok (.l2d, 1)) (k : X M lv K T rc rs (pc + 1) ls (.double (FP.l2d x) :: st) h) : X M lv K T rc rs pc ls (.long x :: st) h := by
  intro p l e R s m args below meth c D tc A n0 ad0 h0 Q ad H locs cells slots la C hR hE hst hls hla hc hs eR eT
  obtain ⟨hx, hb, hml, hret, hts, hown, hlk, htab, hns, hini, hfr, hlo⟩ := id C
  exact lv_l2d hx hb hd (k p l e R s m args below meth c D tc A n0 ad0 h0 Q ad H locs cells slots la C hR hE (List.forall_mem_cons.mpr ⟨trivial, (fun v hv => hst v (List.mem_cons_of_mem _ hv))⟩) hls hla hc hs eR eT)
theorem X_i2f {M : Mt} {lv : Nat} {K : Option Value → AH → Prop} {T : String → AH → Prop} {rc rs pc : Nat} {ls : List (Nat × Value)} {st : List Value} {h : AH} {x : Int32} (hd : decode M.2.1 pc = .ok (.i2f, 1)) (k : X M lv K T rc rs (pc + 1) ls (.float (FP.i2f x) :: st) h) : X M lv K T rc rs pc ls (.int x :: st) h := by
  intro p l e R s m args below meth c D tc A n0 ad0 h0 Q ad H locs cells slots la C hR hE hst hls hla hc hs eR eT
  obtain ⟨hx, hb, hml, hret, hts, hown, hlk, htab, hns, hini, hfr, hlo⟩ := id C
  exact lv_i2f hx hb hd (k p l e R s m args below meth c D tc A n0 ad0 h0 Q ad H locs cells slots la C hR hE (List.forall_mem_cons.mpr ⟨trivial, (fun v hv => hst v (List.mem_cons_of_mem _ hv))⟩) hls hla hc hs eR eT)
theorem X_f2d {M : Mt} {lv : Nat} {K : Option Value → AH → Prop} {T : String → AH → Prop} {rc rs pc : Nat} {ls : List (Nat × Value)} {st : List Value} {h : AH} {x : UInt32} (hd : decode M.2.1 pc = .ok (.f2d, 1)) (hne : vf_n64 (FP.f2d x)) (k : X M lv K T rc rs (pc + 1) ls (.double (FP.f2d x) :: st) h) : X M lv K T rc rs pc ls (.float x :: st) h := by
  intro p l e R s m args below meth c D tc A n0 ad0 h0 Q ad H locs cells slots la C hR hE hst hls hla hc hs eR eT
  obtain ⟨hx, hb, hml, hret, hts, hown, hlk, htab, hns, hini, hfr, hlo⟩ := id C
  exact lv_f2d hx hb hd hne (k p l e R s m args below meth c D tc A n0 ad0 h0 Q ad H locs cells slots la C hR hE (List.forall_mem_cons.mpr ⟨trivial, (fun v hv => hst v (List.mem_cons_of_mem _ hv))⟩) hls hla hc hs eR eT)
theorem X_ddiv {M : Mt} {lv : Nat} {K : Option Value → AH → Prop} {T : String → AH → Prop} {rc rs pc : Nat} {ls : List (Nat × Value)} {st : List Value} {h : AH} {x y : UInt64} (hd : decode M.2.1 pc = .ok (.ddiv, 1)) (hne : vf_n64 (FP.ddiv x y)) (k : X M lv K T rc rs (pc + 1) ls (.double (FP.ddiv x y) :: st) h) : X M lv K T rc rs pc ls (.double y :: .double x :: st) h := by
  intro p l e R s m args below meth c D tc A n0 ad0 h0 Q ad H locs cells slots la C hR hE hst hls hla hc hs eR eT
  obtain ⟨hx, hb, hml, hret, hts, hown, hlk, htab, hns, hini, hfr, hlo⟩ := id C
  exact lv_ddiv hx hb hd hne (k p l e R s m args below meth c D tc A n0 ad0 h0 Q ad H locs cells slots la C hR hE (List.forall_mem_cons.mpr ⟨trivial, (fun v hv => hst v (List.mem_cons_of_mem _ (List.mem_cons_of_mem _ hv)))⟩) hls hla hc hs eR eT)
theorem X_fdiv {M : Mt} {lv : Nat} {K : Option Value → AH → Prop} {T : String → AH → Prop} {rc rs pc : Nat} {ls : List (Nat × Value)} {st : List Value} {h : AH} {x y : UInt32} (hd : decode M.2.1 pc = .ok (.fdiv, 1)) (hne : vf_n32 (FP.fdiv x y)) (k : X M lv K T rc rs (pc + 1) ls (.float (FP.fdiv x y) :: st) h) : X M lv K T rc rs pc ls (.float y :: .float x :: st) h := by
  intro p l e R s m args below meth c D tc A n0 ad0 h0 Q ad H locs cells slots la C hR hE hst hls hla hc hs eR eT
  obtain ⟨hx, hb, hml, hret, hts, hown, hlk, htab, hns, hini, hfr, hlo⟩ := id C
  exact lv_fdiv hx hb hd hne (k p l e R s m args below meth c D tc A n0 ad0 h0 Q ad H locs cells slots la C hR hE (List.forall_mem_cons.mpr ⟨trivial, (fun v hv => hst v (List.mem_cons_of_mem _ (List.mem_cons_of_mem _ hv)))⟩) hls hla hc hs eR eT)
theorem X_dcmp {M : Mt} {lv : Nat} {K : Option Value → AH → Prop} {T : String → AH → Prop} {rc rs pc : Nat} {ls : List (Nat × Value)} {st : List Value} {h : AH} {x y : UInt64} {op : CmpOp} (hd : decode M.2.1 pc = .ok (.dcmp op, 1)) (k : X M lv K T rc rs (pc + 1) ls (.int (Op.cmpValue (FP.dcmp x y) op) :: st) h) : X M lv K T rc rs pc ls (.double y :: .double x :: st) h := by
  intro p l e R s m args below meth c D tc A n0 ad0 h0 Q ad H locs cells slots la C hR hE hst hls hla hc hs eR eT
  obtain ⟨hx, hb, hml, hret, hts, hown, hlk, htab, hns, hini, hfr, hlo⟩ := id C
  exact lv_dcmp hx hb hd (k p l e R s m args below meth c D tc A n0 ad0 h0 Q ad H locs cells slots la C hR hE (List.forall_mem_cons.mpr ⟨trivial, (fun v hv => hst v (List.mem_cons_of_mem _ (List.mem_cons_of_mem _ hv)))⟩) hls hla hc hs eR eT)
theorem X_fcmp {M : Mt} {lv : Nat} {K : Option Value → AH → Prop} {T : String → AH → Prop} {rc rs pc : Nat} {ls : List (Nat × Value)} {st : List Value} {h : AH} {x y : UInt32} {op : CmpOp} (hd : decode M.2.1 pc = .ok (.fcmp op, 1)) (k : X M lv K T rc rs (pc + 1) ls (.int (Op.cmpValue (FP.fcmp x y) op) :: st) h) : X M lv K T rc rs pc ls (.float y :: .float x :: st) h := by
  intro p l e R s m args below meth c D tc A n0 ad0 h0 Q ad H locs cells slots la C hR hE hst hls hla hc hs eR eT
  obtain ⟨hx, hb, hml, hret, hts, hown, hlk, htab, hns, hini, hfr, hlo⟩ := id C
  exact lv_fcmp hx hb hd (k p l e R s m args below meth c D tc A n0 ad0 h0 Q ad H locs cells slots la C hR hE (List.forall_mem_cons.mpr ⟨trivial, (fun v hv => hst v (List.mem_cons_of_mem _ (List.mem_cons_of_mem _ hv)))⟩) hls hla hc hs eR eT)
theorem X_dup {M : Mt} {lv : Nat} {K : Option Value → AH → Prop} {T : String → AH → Prop} {rc rs pc : Nat} {ls : List (Nat × Value)} {st : List Value} {h : AH} {v1 : Value} (hd : decode M.2.1 pc = .ok (.dup, 1)) (h1 : v1.category = 1) (k : X M lv K T rc rs (pc + 1) ls (v1 :: v1 :: st) h) : X M lv K T rc rs pc ls (v1 :: st) h := by
  intro p l e R s m args below meth c D tc A n0 ad0 h0 Q ad H locs cells slots la C hR hE hst hls hla hc hs eR eT
  obtain ⟨hx, hb, hml, hret, hts, hown, hlk, htab, hns, hini, hfr, hlo⟩ := id C
  exact lv_dup hx hb hd ((cv_cat ad _).trans h1) (k p l e R s m args below meth c D tc A n0 ad0 h0 Q ad H locs cells slots la C hR hE (List.forall_mem_cons.mpr ⟨(hst _ List.mem_cons_self), (List.forall_mem_cons.mpr ⟨(hst _ List.mem_cons_self), (fun v hv => hst v (List.mem_cons_of_mem _ hv))⟩)⟩) hls hla hc hs eR eT)
theorem X_pop {M : Mt} {lv : Nat} {K : Option Value → AH → Prop} {T : String → AH → Prop} {rc rs pc : Nat} {ls : List (Nat × Value)} {st : List Value} {h : AH} {v1 : Value} (hd : decode M.2.1 pc = .ok (.pop, 1)) (h1 : v1.category = 1) (k : X M lv K T rc rs (pc + 1) ls (st) h) : X M lv K T rc rs pc ls (v1 :: st) h := by
  intro p l e R s m args below meth c D tc A n0 ad0 h0 Q ad H locs cells slots la C hR hE hst hls hla hc hs eR eT
  obtain ⟨hx, hb, hml, hret, hts, hown, hlk, htab, hns, hini, hfr, hlo⟩ := id C
  exact lv_pop hx hb hd ((cv_cat ad _).trans h1) (k p l e R s m args below meth c D tc A n0 ad0 h0 Q ad H locs cells slots la C hR hE (fun v hv => hst v (List.mem_cons_of_mem _ hv)) hls hla hc hs eR eT)
theorem X_dup_x1 {M : Mt} {lv : Nat} {K : Option Value → AH → Prop} {T : String → AH → Prop} {rc rs pc : Nat} {ls : List (Nat × Value)} {st : List Value} {h : AH} {v1 v2 : Value} (hd : decode M.2.1 pc = .ok (.dup_x1, 1)) (h1 : v1.category = 1) (h2 : v2.category = 1) (k : X M lv K T rc rs (pc + 1) ls (v1 :: v2 :: v1 :: st) h) : X M lv K T rc rs pc ls (v1 :: v2 :: st) h := by
  intro p l e R s m args below meth c D tc A n0 ad0 h0 Q ad H locs cells slots la C hR hE hst hls hla hc hs eR eT
  obtain ⟨hx, hb, hml, hret, hts, hown, hlk, htab, hns, hini, hfr, hlo⟩ := id C
  exact lv_dup_x1 hx hb hd ((cv_cat ad _).trans h1) ((cv_cat ad _).trans h2) (k p l e R s m args below meth c D tc A n0 ad0 h0 Q ad H locs cells slots la C hR hE (List.forall_mem_cons.mpr ⟨(hst _ List.mem_cons_self), (List.forall_mem_cons.mpr ⟨(hst _ (List.mem_cons_of_mem _ List.mem_cons_self)), (List.forall_mem_cons.mpr ⟨(hst _ List.mem_cons_self), (fun v hv => hst v (List.mem_cons_of_mem _ (List.mem_cons_of_mem _ hv)))⟩)⟩)⟩) hls hla hc hs eR eT)
theorem X_dup_x2 {M : Mt} {lv : Nat} {K : Option Value → AH → Prop} {T : String → AH → Prop} {rc rs pc : Nat} {ls : List (Nat × Value)} {st : List Value} {h : AH} {v1 v2 v3 : Value} (hd : decode M.2.1 pc = .ok (.dup_x2, 1)) (h1 : v1.category = 1) (h2 : v2.category = 1) (h3 : v3.category = 1) (k : X M lv K T rc rs (pc + 1) ls (v1 :: v2 :: v3 :: v1 :: st) h) : X M lv K T rc rs pc ls (v1 :: v2 :: v3 :: st) h := by
  intro p l e R s m args below meth c D tc A n0 ad0 h0 Q ad H locs cells slots la C hR hE hst hls hla hc hs eR eT
  obtain ⟨hx, hb, hml, hret, hts, hown, hlk, htab, hns, hini, hfr, hlo⟩ := id C
  exact lv_dup_x2 hx hb hd ((cv_cat ad _).trans h1) ((cv_cat ad _).trans h2) ((cv_cat ad _).trans h3) (k p l e R s m args below meth c D tc A n0 ad0 h0 Q ad H locs cells slots la C hR hE (List.forall_mem_cons.mpr ⟨(hst _ List.mem_cons_self), (List.forall_mem_cons.mpr ⟨(hst _ (List.mem_cons_of_mem _ List.mem_cons_self)), (List.forall_mem_cons.mpr ⟨(hst _ (List.mem_cons_of_mem _ (List.mem_cons_of_mem _ List.mem_cons_self))), (List.forall_mem_cons.mpr ⟨(hst _ List.mem_cons_self), (fun v hv => hst v (List.mem_cons_of_mem _ (List.mem_cons_of_mem _ (List.mem_cons_of_mem _ hv))))⟩)⟩)⟩)⟩) hls hla hc hs eR eT)
theorem X_dup2 {M : Mt} {lv : Nat} {K : Option Value → AH → Prop} {T : String → AH → Prop} {rc rs pc : Nat} {ls : List (Nat × Value)} {st : List Value} {h : AH} {v1 v2 : Value} (hd : decode M.2.1 pc = .ok (.dup2, 1)) (h1 : v1.category = 1) (h2 : v2.category = 1) (k : X M lv K T rc rs (pc + 1) ls (v1 :: v2 :: v1 :: v2 :: st) h) : X M lv K T rc rs pc ls (v1 :: v2 :: st) h := by
  intro p l e R s m args below meth c D tc A n0 ad0 h0 Q ad H locs cells slots la C hR hE hst hls hla hc hs eR eT
  obtain ⟨hx, hb, hml, hret, hts, hown, hlk, htab, hns, hini, hfr, hlo⟩ := id C
  exact lv_dup2_11 hx hb hd ((cv_cat ad _).trans h1) ((cv_cat ad _).trans h2) (k p l e R s m args below meth c D tc A n0 ad0 h0 Q ad H locs cells slots la C hR hE (List.forall_mem_cons.mpr ⟨(hst _ List.mem_cons_self), (List.forall_mem_cons.mpr ⟨(hst _ (List.mem_cons_of_mem _ List.mem_cons_self)), (List.forall_mem_cons.mpr ⟨(hst _ List.mem_cons_self), (List.forall_mem_cons.mpr ⟨(hst _ (List.mem_cons_of_mem _ List.mem_cons_self)), (fun v hv => hst v (List.mem_cons_of_mem _ (List.mem_cons_of_mem _ hv)))⟩)⟩)⟩)⟩) hls hla hc hs eR eT)
theorem X_pop2 {M : Mt} {lv : Nat} {K : Option Value → AH → Prop} {T : String → AH → Prop} {rc rs pc : Nat} {ls : List (Nat × Value)} {st : List Value} {h : AH} {v1 v2 : Value} (hd : decode M.2.1 pc = .ok (.pop2, 1)) (h1 : v1.category = 1) (h2 : v2.category = 1) (k : X M lv K T rc rs (pc + 1) ls (st) h) : X M lv K T rc rs pc ls (v1 :: v2 :: st) h := by
  intro p l e R s m args below meth c D tc A n0 ad0 h0 Q ad H locs cells slots la C hR hE hst hls hla hc hs eR eT
  obtain ⟨hx, hb, hml, hret, hts, hown, hlk, htab, hns, hini, hfr, hlo⟩ := id C
  exact lv_pop2_11 hx hb hd ((cv_cat ad _).trans h1) ((cv_cat ad _).trans h2) (k p l e R s m args below meth c D tc A n0 ad0 h0 Q ad H locs cells slots la C hR hE (fun v hv => hst v (List.mem_cons_of_mem _ (List.mem_cons_of_mem _ hv))) hls hla hc hs eR eT)
theorem X_if_eq {M : Mt} {lv : Nat} {K : Option Value → AH → Prop} {T : String → AH → Prop} {rc rs pc : Nat} {ls : List (Nat × Value)} {st : List Value} {h : AH} {x : Int32} {off : Int} {tgt : Nat} (hd : decode M.2.1 pc = .ok (.ifCond .eq off, 3)) (ht : (pc : Int) + off = (tgt : Int)) (k : (x = 0 → X M lv K T rc rs tgt ls st h) ∧ (¬ x = 0 → X M lv K T rc rs (pc + 3) ls st h)) : X M lv K T rc rs pc ls (.int x :: st) h := by
  intro p l e R s m args below meth c D tc A n0 ad0 h0 Q ad H locs cells slots la C hR hE hst hls hla hc hs eR eT
  obtain ⟨hx, hb, hml, hret, hts, hown, hlk, htab, hns, hini, hfr, hlo⟩ := id C
  exact lv_if_eq hx hb hd ht (fun z => ((k.1 z) p l e R s m args below meth c D tc A n0 ad0 h0 Q ad H locs cells slots la C hR hE (fun v hv => hst v (List.mem_cons_of_mem _ hv)) hls hla hc hs eR eT)) (fun z => ((k.2 z) p l e R s m args below meth c D tc A n0 ad0 h0 Q ad H locs cells slots la C hR hE (fun v hv => hst v (List.mem_cons_of_mem _ hv)) hls hla hc hs eR eT))
theorem X_icmp_eq {M : Mt} {lv : Nat} {K : Option Value → AH → Prop} {T : String → AH → Prop} {rc rs pc : Nat} {ls : List (Nat × Value)} {st : List Value} {h : AH} {x y : Int32} {off : Int} {tgt : Nat} (hd : decode M.2.1 pc = .ok (.if_icmp .eq off, 3)) (ht : (pc : Int) + off = (tgt : Int)) (k : (x = y → X M lv K T rc rs tgt ls st h) ∧ (¬ x = y → X M lv K T rc rs (pc + 3) ls st h)) : X M lv K T rc rs pc ls (.int y :: .int x :: st) h := by
  intro p l e R s m args below meth c D tc A n0 ad0 h0 Q ad H locs cells slots la C hR hE hst hls hla hc hs eR eT
  obtain ⟨hx, hb, hml, hret, hts, hown, hlk, htab, hns, hini, hfr, hlo⟩ := id C
  exact lv_icmp_eq hx hb hd ht (fun z => ((k.1 z) p l e R s m args below meth c D tc A n0 ad0 h0 Q ad H locs cells slots la C hR hE (fun v hv => hst v (List.mem_cons_of_mem _ (List.mem_cons_of_mem _ hv))) hls hla hc hs eR eT)) (fun z => ((k.2 z) p l e R s m args below meth c D tc A n0 ad0 h0 Q ad H locs cells slots la C hR hE (fun v hv => hst v (List.mem_cons_of_mem _ (List.mem_cons_of_mem _ hv))) hls hla hc hs eR eT))
theorem X_if_ne {M : Mt} {lv : Nat} {K : Option Value → AH → Prop} {T : String → AH → Prop} {rc rs pc : Nat} {ls : List (Nat × Value)} {st : List Value} {h : AH} {x : Int32} {off : Int} {tgt : Nat} (hd : decode M.2.1 pc = .ok (.ifCond .ne off, 3)) (ht : (pc : Int) + off = (tgt : Int)) (k : (¬ x = 0 → X M lv K T rc rs tgt ls st h) ∧ (x = 0 → X M lv K T rc rs (pc + 3) ls st h)) : X M lv K T rc rs pc ls (.int x :: st) h := by
  intro p l e R s m args below meth c D tc A n0 ad0 h0 Q ad H locs cells slots la C hR hE hst hls hla hc hs eR eT
  obtain ⟨hx, hb, hml, hret, hts, hown, hlk, htab, hns, hini, hfr, hlo⟩ := id C
  exact lv_if_ne hx hb hd ht (fun z => ((k.1 z) p l e R s m args below meth c D tc A n0 ad0 h0 Q ad H locs cells slots la C hR hE (fun v hv => hst v (List.mem_cons_of_mem _ hv)) hls hla hc hs eR eT)) (fun z => ((k.2 z) p l e R s m args below meth c D tc A n0 ad0 h0 Q ad H locs cells slots la C hR hE (fun v hv => hst v (List.mem_cons_of_mem _ hv)) hls hla hc hs eR eT))
theorem X_icmp_ne {M : Mt} {lv : Nat} {K : Option Value → AH → Prop} {T : String → AH → Prop} {rc rs pc : Nat} {ls : List (Nat × Value)} {st : List Value} {h : AH} {x y : Int32} {off : Int} {tgt : Nat} (hd : decode M.2.1 pc = .ok (.if_icmp .ne off, 3)) (ht : (pc : Int) + off = (tgt : Int)) (k : (¬ x = y → X M lv K T rc rs tgt ls st h) ∧ (x = y → X M lv K T rc rs (pc + 3) ls st h)) : X M lv K T rc rs pc ls (.int y :: .int x :: st) h := by
  intro p l e R s m args below meth c D tc A n0 ad0 h0 Q ad H locs cells slots la C hR hE hst hls hla hc hs eR eT
  obtain ⟨hx, hb, hml, hret, hts, hown, hlk, htab, hns, hini, hfr, hlo⟩ := id C
  exact lv_icmp_ne hx hb hd ht (fun z => ((k.1 z) p l e R s m args below meth c D tc A n0 ad0 h0 Q ad H locs cells slots la C hR hE (fun v hv => hst v (List.mem_cons_of_mem _ (List.mem_cons_of_mem _ hv))) hls hla hc hs eR eT)) (fun z => ((k.2 z) p l e R s m args below meth c D tc A n0 ad0 h0 Q ad H locs cells slots la C hR hE (fun v hv => hst v (List.mem_cons_of_mem _ (List.mem_cons_of_mem _ hv))) hls hla hc hs eR eT))
theorem X_if_lt {M : Mt} {lv : Nat} {K : Option Value → AH → Prop} {T : String → AH → Prop} {rc rs pc : Nat} {ls : List (Nat × Value)} {st : List Value} {h : AH} {x : Int32} {off : Int} {tgt : Nat} (hd : decode M.2.1 pc = .ok (.ifCond .lt off, 3)) (ht : (pc : Int) + off = (tgt : Int)) (k : (x < 0 → X M lv K T rc rs tgt ls st h) ∧ (¬ x < 0 → X M lv K T rc rs (pc + 3) ls st h)) : X M lv K T rc rs pc ls (.int x :: st) h := by
  intro p l e R s m args below meth c D tc A n0 ad0 h0 Q ad H locs cells slots la C hR hE hst hls hla hc hs eR eT
  obtain ⟨hx, hb, hml, hret, hts, hown, hlk, htab, hns, hini, hfr, hlo⟩ := id C
  exact lv_if_lt hx hb hd ht (fun z => ((k.1 z) p l e R s m args below meth c D tc A n0 ad0 h0 Q ad H locs cells slots la C hR hE (fun v hv => hst v (List.mem_cons_of_mem _ hv)) hls hla hc hs eR eT)) (fun z => ((k.2 z) p l e R s m args below meth c D tc A n0 ad0 h0 Q ad H locs cells slots la C hR hE (fun v hv => hst v (List.mem_cons_of_mem _ hv)) hls hla hc hs eR eT))
theorem X_icmp_lt {M : Mt} {lv : Nat} {K : Option Value → AH → Prop} {T : String → AH → Prop} {rc rs pc : Nat} {ls : List (Nat × Value)} {st : List Value} {h : AH} {x y : Int32} {off : Int} {tgt : Nat} (hd : decode M.2.1 pc = .ok (.if_icmp .lt off, 3)) (ht : (pc : Int) + off = (tgt : Int)) (k : (x < y → X M lv K T rc rs tgt ls st h) ∧ (¬ x < y → X M lv K T rc rs (pc + 3) ls st h)) : X M lv K T rc rs pc ls (.int y :: .int x :: st) h := by
  intro p l e R s m args below meth c D tc A n0 ad0 h0 Q ad H locs cells slots la C hR hE hst hls hla hc hs eR eT
  obtain ⟨hx, hb, hml, hret, hts, hown, hlk, htab, hns, hini, hfr, hlo⟩ := id C
  exact lv_icmp_lt hx hb hd ht (fun z => ((k.1 z) p l e R s m args below meth c D tc A n0 ad0 h0 Q ad H locs cells slots la C hR hE (fun v hv => hst v (List.mem_cons_of_mem _ (List.mem_cons_of_mem _ hv))) hls hla hc hs eR eT)) (fun z => ((k.2 z) p l e R s m args below meth c D tc A n0 ad0 h0 Q ad H locs cells slots la C hR hE (fun v hv => hst v (List.mem_cons_of_mem _ (List.mem_cons_of_mem _ hv))) hls hla hc hs eR eT))
theorem X_if_ge {M : Mt} {lv : Nat} {K : Option Value → AH → Prop} {T : String → AH → Prop} {rc rs pc : Nat} {ls : List (Nat × Value)} {st : List Value} {h : AH} {x : Int32} {off : Int} {tgt : Nat} (hd : decode M.2.1 pc = .ok (.ifCond .ge off, 3)) (ht : (pc : Int) + off = (tgt : Int)) (k : (0 ≤ x → X M lv K T rc rs tgt ls st h) ∧ (¬ 0 ≤ x → X M lv K T rc rs (pc + 3) ls st h)) : X M lv K T rc rs pc ls (.int x :: st) h := by
  intro p l e R s m args below meth c D tc A n0 ad0 h0 Q ad H locs cells slots la C hR hE hst hls hla hc hs eR eT
  obtain ⟨hx, hb, hml, hret, hts, hown, hlk, htab, hns, hini, hfr, hlo⟩ := id C
  exact lv_if_ge hx hb hd ht (fun z => ((k.1 z) p l e R s m args below meth c D tc A n0 ad0 h0 Q ad H locs cells slots la C hR hE (fun v hv => hst v (List.mem_cons_of_mem _ hv)) hls hla hc hs eR eT)) (fun z => ((k.2 z) p l e R s m args below meth c D tc A n0 ad0 h0 Q ad H locs cells slots la C hR hE (fun v hv => hst v (List.mem_cons_of_mem _ hv)) hls hla hc hs eR eT))
theorem X_icmp_ge {M : Mt} {lv : Nat} {K : Option Value → AH → Prop} {T : String → AH → Prop} {rc rs pc : Nat} {ls : List (Nat × Value)} {st : List Value} {h : AH} {x y : Int32} {off : Int} {tgt : Nat} (hd : decode M.2.1 pc = .ok (.if_icmp .ge off, 3)) (ht : (pc : Int) + off = (tgt : Int)) (k : (y ≤ x → X M lv K T rc rs tgt ls st h) ∧ (¬ y ≤ x → X M lv K T rc rs (pc + 3) ls st h)) : X M lv K T rc rs pc ls (.int y :: .int x :: st) h := by
  intro p l e R s m args below meth c D tc A n0 ad0 h0 Q ad H locs cells slots la C hR hE hst hls hla hc hs eR eT
  obtain ⟨hx, hb, hml, hret, hts, hown, hlk, htab, hns, hini, hfr, hlo⟩ := id C
  exact lv_icmp_ge hx hb hd ht (fun z => ((k.1 z) p l e R s m args below meth c D tc A n0 ad0 h0 Q ad H locs cells slots la C hR hE (fun v hv => hst v (List.mem_cons_of_mem _ (List.mem_cons_of_mem _ hv))) hls hla hc hs eR eT)) (fun z => ((k.2 z) p l e R s m args below meth c D tc A n0 ad0 h0 Q ad H locs cells slots la C hR hE (fun v hv => hst v (List.mem_cons_of_mem _ (List.mem_cons_of_mem _ hv))) hls hla hc hs eR eT))
theorem X_if_gt {M : Mt} {lv : Nat} {K : Option Value → AH → Prop} {T : String → AH → Prop} {rc rs pc : Nat} {ls : List (Nat × Value)} {st : List Value} {h : AH} {x : Int32} {off : Int} {tgt : Nat} (hd : decode M.2.1 pc = .ok (.ifCond .gt off, 3)) (ht : (pc : Int) + off = (tgt : Int)) (k : (0 < x → X M lv K T rc rs tgt ls st h) ∧ (¬ 0 < x → X M lv K T rc rs (pc + 3) ls st h)) : X M lv K T rc rs pc ls (.int x :: st) h := by
  intro p l e R s m args below meth c D tc A n0 ad0 h0 Q ad H locs cells slots la C hR hE hst hls hla hc hs eR eT
  obtain ⟨hx, hb, hml, hret, hts, hown, hlk, htab, hns, hini, hfr, hlo⟩ := id C
  exact lv_if_gt hx hb hd ht (fun z => ((k.1 z) p l e R s m args below meth c D tc A n0 ad0 h0 Q ad H locs cells slots la C hR hE (fun v hv => hst v (List.mem_cons_of_mem _ hv)) hls hla hc hs eR eT)) (fun z => ((k.2 z) p l e R s m args below meth c D tc A n0 ad0 h0 Q ad H locs cells slots la C hR hE (fun v hv => hst v (List.mem_cons_of_mem _ hv)) hls hla hc hs eR eT))
theorem X_icmp_gt {M : Mt} {lv : Nat} {K : Option Value → AH → Prop} {T : String → AH → Prop} {rc rs pc : Nat} {ls : List (Nat × Value)} {st : List Value} {h : AH} {x y : Int32} {off : Int} {tgt : Nat} (hd : decode M.2.1 pc = .ok (.if_icmp .gt off, 3)) (ht : (pc : Int) + off = (tgt : Int)) (k : (y < x → X M lv K T rc rs tgt ls st h) ∧ (¬ y < x → X M lv K T rc rs (pc + 3) ls st h)) : X M lv K T rc rs pc ls (.int y :: .int x :: st) h := by
  intro p l e R s m args below meth c D tc A n0 ad0 h0 Q ad H locs cells slots la C hR hE hst hls hla hc hs eR eT
  obtain ⟨hx, hb, hml, hret, hts, hown, hlk, htab, hns, hini, hfr, hlo⟩ := id C
  exact lv_icmp_gt hx hb hd ht (fun z => ((k.1 z) p l e R s m args below meth c D tc A n0 ad0 h0 Q ad H locs cells slots la C hR hE (fun v hv => hst v (List.mem_cons_of_mem _ (List.mem_cons_of_mem _ hv))) hls hla hc hs eR eT)) (fun z => ((k.2 z) p l e R s m args below meth c D tc A n0 ad0 h0 Q ad H locs cells slots la C hR hE (fun v hv => hst v (List.mem_cons_of_mem _ (List.mem_cons_of_mem _ hv))) hls hla hc hs eR eT))
theorem X_if_le {M : Mt} {lv : Nat} {K : Option Value → AH → Prop} {T : String → AH → Prop} {rc rs pc : Nat} {ls : List (Nat × Value)} {st : List Value} {h : AH} {x : Int32} {off : Int} {tgt : Nat} (hd : decode M.2.1 pc = .ok (.ifCond .le off, 3)) (ht : (pc : Int) + off = (tgt : Int)) (k : (x ≤ 0 → X M lv K T rc rs tgt ls st h) ∧ (¬ x ≤ 0 → X M lv K T rc rs (pc + 3) ls st h)) : X M lv K T rc rs pc ls (.int x :: st) h := by
  intro p l e R s m args below meth c D tc A n0 ad0 h0 Q ad H locs cells slots la C hR hE hst hls hla hc hs eR eT
  obtain ⟨hx, hb, hml, hret, hts, hown, hlk, htab, hns, hini, hfr, hlo⟩ := id C
  exact lv_if_le hx hb hd ht (fun z => ((k.1 z) p l e R s m args below meth c D tc A n0 ad0 h0 Q ad H locs cells slots la C hR hE (fun v hv => hst v (List.mem_cons_of_mem _ hv)) hls hla hc hs eR eT)) (fun z => ((k.2 z) p l e R s m args below meth c D tc A n0 ad0 h0 Q ad H locs cells slots la C hR hE (fun v hv => hst v (List.mem_cons_of_mem _ hv)) hls hla hc hs eR eT))
theorem X_icmp_le {M : Mt} {lv : Nat} {K : Option Value → AH → Prop} {T : String → AH → Prop} {rc rs pc : Nat} {ls : List (Nat × Value)} {st : List Value} {h : AH} {x y : Int32} {off : Int} {tgt : Nat} (hd : decode M.2.1 pc = .ok (.if_icmp .le off, 3)) (ht : (pc : Int) + off = (tgt : Int)) (k : (x ≤ y → X M lv K T rc rs tgt ls st h) ∧ (¬ x ≤ y → X M lv K T rc rs (pc + 3) ls st h)) : X M lv K T rc rs pc ls (.int y :: .int x :: st) h := by
  intro p l e R s m args below meth c D tc A n0 ad0 h0 Q ad H locs cells slots la C hR hE hst hls hla hc hs eR eT
  obtain ⟨hx, hb, hml, hret, hts, hown, hlk, htab, hns, hini, hfr, hlo⟩ := id C
  exact lv_icmp_le hx hb hd ht (fun z => ((k.1 z) p l e R s m args below meth c D tc A n0 ad0 h0 Q ad H locs cells slots la C hR hE (fun v hv => hst v (List.mem_cons_of_mem _ (List.mem_cons_of_mem _ hv))) hls hla hc hs eR eT)) (fun z => ((k.2 z) p l e R s m args below meth c D tc A n0 ad0 h0 Q ad H locs cells slots la C hR hE (fun v hv => hst v (List.mem_cons_of_mem _ (List.mem_cons_of_mem _ hv))) hls hla hc hs eR eT))
theorem X_goto {M : Mt} {lv : Nat} {K : Option Value → AH → Prop} {T : String → AH → Prop} {rc rs pc : Nat} {ls : List (Nat × Value)} {st : List Value} {h : AH} {off : Int} {tgt : Nat} (hd : decode M.2.1 pc = .ok (.goto off, 3)) (ht : (pc : Int) + off = (tgt : Int)) (k : X M lv K T rc rs tgt ls st h) : X M lv K T rc rs pc ls st h := by
  intro p l e R s m args below meth c D tc A n0 ad0 h0 Q ad H locs cells slots la C hR hE hst hls hla hc hs eR eT
  obtain ⟨hx, hb, hml, hret, hts, hown, hlk, htab, hns, hini, hfr, hlo⟩ := id C
  exact lv_goto hx hb hd ht (k p l e R s m args below meth c D tc A n0 ad0 h0 Q ad H locs cells slots la C hR hE hst hls hla hc hs eR eT)
theorem X_ifnull {M : Mt} {lv : Nat} {K : Option Value → AH → Prop} {T : String → AH → Prop} {rc rs pc : Nat} {ls : List (Nat × Value)} {st : List Value} {h : AH} {a : Nat} {off : Int} {tgt : Nat} (hd : decode M.2.1 pc = .ok (.ifnull off, 3)) (ht : (pc : Int) + off = (tgt : Int)) (k : (a = 0 → X M lv K T rc rs tgt ls st h) ∧ (¬ a = 0 → X M lv K T rc rs (pc + 3) ls st h)) : X M lv K T rc rs pc ls (.ref a :: st) h := by
  intro p l e R s m args below meth c D tc A n0 ad0 h0 Q ad H locs cells slots la C hR hE hst hls hla hc hs eR eT
  obtain ⟨hx, hb, hml, hret, hts, hown, hlk, htab, hns, hini, hfr, hlo⟩ := id C
  rw [List.map_cons]
  by_cases z : a = 0
  · have k9 := ((k.1 z) p l e R s m args below meth c D tc A n0 ad0 h0 Q ad H locs cells slots la C hR hE (fun v hv => hst v (List.mem_cons_of_mem _ hv)) hls hla hc hs eR eT)
    subst z
    exact lv_ifnullN hx hb hd ht k9
  · have k9 := ((k.2 z) p l e R s m args below meth c D tc A n0 ad0 h0 Q ad H locs cells slots la C hR hE (fun v hv => hst v (List.mem_cons_of_mem _ hv)) hls hla hc hs eR eT)
    rw [cv_ref z]
    exact lv_ifnull hx hb hd k9
theorem X_ifnonnull {M : Mt} {lv : Nat} {K : Option Value → AH → Prop} {T : String → AH → Prop} {rc rs pc : Nat} {ls : List (Nat × Value)} {st : List Value} {h : AH} {a : Nat} {off : Int} {tgt : Nat} (hd : decode M.2.1 pc = .ok (.ifnonnull off, 3)) (ht : (pc : Int) + off = (tgt : Int)) (k : (a = 0 → X M lv K T rc rs (pc + 3) ls st h) ∧ (¬ a = 0 → X M lv K T rc rs tgt ls st h)) : X M lv K T rc rs pc ls (.ref a :: st) h := by
  intro p l e R s m args below meth c D tc A n0 ad0 h0 Q ad H locs cells slots la C hR hE hst hls hla hc hs eR eT
  obtain ⟨hx, hb, hml, hret, hts, hown, hlk, htab, hns, hini, hfr, hlo⟩ := id C
  rw [List.map_cons]
  by_cases z : a = 0
  · have k9 := ((k.1 z) p l e R s m args below meth c D tc A n0 ad0 h0 Q ad H locs cells slots la C hR hE (fun v hv => hst v (List.mem_cons_of_mem _ hv)) hls hla hc hs eR eT)
    subst z
    exact lv_ifnonnullN hx hb hd k9
  · have k9 := ((k.2 z) p l e R s m args below meth c D tc A n0 ad0 h0 Q ad H locs cells slots la C hR hE (fun v hv => hst v (List.mem_cons_of_mem _ hv)) hls hla hc hs eR eT)
    rw [cv_ref z]
    exact lv_ifnonnull hx hb hd ht k9
theorem X_tableIn {M : Mt} {lv : Nat} {K : Option Value → AH → Prop} {T : String → AH → Prop} {rc rs pc : Nat} {ls : List (Nat × Value)} {st : List Value} {h : AH} {dflt lo hi : Int} {offs : Array Int} {len : Nat} {x : Int32} {off : Int} {tgt : Nat} (hd : decode M.2.1 pc = .ok (.tableswitch dflt lo hi offs, len)) (h1 : ¬ x.toInt < lo) (h2 : ¬ hi < x.toInt) (ho : offs[(x.toInt - lo).toNat]? = some off) (ht : (pc : Int) + off = (tgt : Int)) (k : X M lv K T rc rs tgt ls st h) : X M lv K T rc rs pc ls (.int x :: st) h := by
  intro p l e R s m args below meth c D tc A n0 ad0 h0 Q ad H locs cells slots la C hR hE hst hls hla hc hs eR eT
  obtain ⟨hx, hb, hml, hret, hts, hown, hlk, htab, hns, hini, hfr, hlo⟩ := id C
  exact lv_tableIn hx hb hd h1 h2 ho ht (k p l e R s m args below meth c D tc A n0 ad0 h0 Q ad H locs cells slots la C hR hE (fun v hv => hst v (List.mem_cons_of_mem _ hv)) hls hla hc hs eR eT)
theorem X_tableOut {M : Mt} {lv : Nat} {K : Option Value → AH → Prop} {T : String → AH → Prop} {rc rs pc : Nat} {ls : List (Nat × Value)} {st : List Value} {h : AH} {dflt lo hi : Int} {offs : Array Int} {len : Nat} {x : Int32} {tgt : Nat} (hd : decode M.2.1 pc = .ok (.tableswitch dflt lo hi offs, len)) (h1 : x.toInt < lo ∨ hi < x.toInt) (ht : (pc : Int) + dflt = (tgt : Int)) (k : X M lv K T rc rs tgt ls st h) : X M lv K T rc rs pc ls (.int x :: st) h := by
  intro p l e R s m args below meth c D tc A n0 ad0 h0 Q ad H locs cells slots la C hR hE hst hls hla hc hs eR eT
  obtain ⟨hx, hb, hml, hret, hts, hown, hlk, htab, hns, hini, hfr, hlo⟩ := id C
  exact lv_tableOut hx hb hd h1 ht (k p l e R s m args below meth c D tc A n0 ad0 h0 Q ad H locs cells slots la C hR hE (fun v hv => hst v (List.mem_cons_of_mem _ hv)) hls hla hc hs eR eT)
theorem X_lookup {M : Mt} {lv : Nat} {K : Option Value → AH → Prop} {T : String → AH → Prop} {rc rs pc : Nat} {ls : List (Nat × Value)} {st : List Value} {h : AH} {dflt : Int} {ps : Array (Int × Int)} {len : Nat} {x : Int32} {off : Int} {tgt : Nat} (hd : decode M.2.1 pc = .ok (.lookupswitch dflt ps, len)) (hp : (ps.toList.zip (ps.toList.drop 1)).all (fun (a, next) => a.1 < next.1) = true) (ho : Op.lookupswitch.offset ps.toList dflt x.toInt = off) (ht : (pc : Int) + off = (tgt : Int)) (k : X M lv K T rc rs tgt ls st h) : X M lv K T rc rs pc ls (.int x :: st) h := by
  intro p l e R s m args below meth c D tc A n0 ad0 h0 Q ad H locs cells slots la C hR hE hst hls hla hc hs eR eT
  obtain ⟨hx, hb, hml, hret, hts, hown, hlk, htab, hns, hini, hfr, hlo⟩ := id C
  exact lv_lookup hx hb hd hp ho ht (k p l e R s m args below meth c D tc A n0 ad0 h0 Q ad H locs cells slots la C hR hE (fun v hv => hst v (List.mem_cons_of_mem _ hv)) hls hla hc hs eR eT)
theorem X_iret {M : Mt} {lv : Nat} {K : Option Value → AH → Prop} {T : String → AH → Prop} {rc rs pc : Nat} {ls : List (Nat × Value)} {h : AH} {x : Int32} (hr : rok M pc (some (.int x))) (hK : K (some (.int x)) h) : X M lv K T rc rs pc ls [.int x] h := by
  intro p l e R s m args below meth c D tc A n0 ad0 h0 Q ad H locs cells slots la C hR hE hst hls hla hc hs eR eT
  obtain ⟨hx, hb, hml, hret, hts, hown, hlk, htab, hns, hini, hfr, hlo⟩ := id C
  exact eR ad h H locs cells slots (some (.int x)) pc la hR hE (fun v hv => hst v (by simpa using hv)) hK (by omega) (by omega) hr
theorem X_lret {M : Mt} {lv : Nat} {K : Option Value → AH → Prop} {T : String → AH → Prop} {rc rs pc : Nat} {ls : List (Nat × Value)} {h : AH} {x : Int64} (hr : rok M pc (some (.long x))) (hK : K (some (.long x)) h) : X M lv K T rc rs pc ls [.long x] h := by
  intro p l e R s m args below meth c D tc A n0 ad0 h0 Q ad H locs cells slots la C hR hE hst hls hla hc hs eR eT
  obtain ⟨hx, hb, hml, hret, hts, hown, hlk, htab, hns, hini, hfr, hlo⟩ := id C
  exact eR ad h H locs cells slots (some (.long x)) pc la hR hE (fun v hv => hst v (by simpa using hv)) hK (by omega) (by omega) hr
theorem X_fret {M : Mt} {lv : Nat} {K : Option Value → AH → Prop} {T : String → AH → Prop} {rc rs pc : Nat} {ls : List (Nat × Value)} {h : AH} {x : UInt32} (hr : rok M pc (some (.float x))) (hK : K (some (.float x)) h) : X M lv K T rc rs pc ls [.float x] h := by
  intro p l e R s m args below meth c D tc A n0 ad0 h0 Q ad H locs cells slots la C hR hE hst hls hla hc hs eR eT
  obtain ⟨hx, hb, hml, hret, hts, hown, hlk, htab, hns, hini, hfr, hlo⟩ := id C
  exact eR ad h H locs cells slots (some (.float x)) pc la hR hE (fun v hv => hst v (by simpa using hv)) hK (by omega) (by omega) hr
theorem X_dret {M : Mt} {lv : Nat} {K : Option Value → AH → Prop} {T : String → AH → Prop} {rc rs pc : Nat} {ls : List (Nat × Value)} {h : AH} {x : UInt64} (hr : rok M pc (some (.double x))) (hK : K (some (.double x)) h) : X M lv K T rc rs pc ls [.double x] h := by
  intro p l e R s m args below meth c D tc A n0 ad0 h0 Q ad H locs cells slots la C hR hE hst hls hla hc hs eR eT
  obtain ⟨hx, hb, hml, hret, hts, hown, hlk, htab, hns, hini, hfr, hlo⟩ := id C
  exact eR ad h H locs cells slots (some (.double x)) pc la hR hE (fun v hv => hst v (by simpa using hv)) hK (by omega) (by omega) hr
theorem X_aret {M : Mt} {lv : Nat} {K : Option Value → AH → Prop} {T : String → AH → Prop} {rc rs pc : Nat} {ls : List (Nat × Value)} {h : AH} {x : Nat} (hr : rok M pc (some (.ref x))) (hK : K (some (.ref x)) h) : X M lv K T rc rs pc ls [.ref x] h := by
  intro p l e R s m args below meth c D tc A n0 ad0 h0 Q ad H locs cells slots la C hR hE hst hls hla hc hs eR eT
  obtain ⟨hx, hb, hml, hret, hts, hown, hlk, htab, hns, hini, hfr, hlo⟩ := id C
  exact eR ad h H locs cells slots (some (.ref x)) pc la hR hE (fun v hv => hst v (by simpa using hv)) hK (by omega) (by omega) hr
theorem X_vret {M : Mt} {lv : Nat} {K : Option Value → AH → Prop} {T : String → AH → Prop} {rc rs pc : Nat} {ls : List (Nat × Value)} {h : AH} (hr : rok M pc none) (hK : K none h) : X M lv K T rc rs pc ls [] h := by
  intro p l e R s m args below meth c D tc A n0 ad0 h0 Q ad H locs cells slots la C hR hE hst hls hla hc hs eR eT
  obtain ⟨hx, hb, hml, hret, hts, hown, hlk, htab, hns, hini, hfr, hlo⟩ := id C
  exact eR ad h H locs cells slots none pc la hR hE (fun v hv => absurd hv (by simp)) hK (by omega) (by omega) hr
end
section
/-! ROWS OVER THE HEAP -/
theorem mI_uIo {h : AH} {a j b : Nat} {v : Int32} (hb : b ≠ a) : mI (uI h a j v) b = mI h b := funext fun _ => if_neg (fun z => hb z.1)
theorem mR_uRo {h : AH} {a j b v : Nat} (hb : b ≠ a) : mR (uR h a j v) b = mR h b := funext fun _ => if_neg (fun z => hb z.1)
theorem mL_uLo {h : AH} {a j b : Nat} {v : Int64} (hb : b ≠ a) : mL (uL h a j v) b = mL h b := funext fun _ => if_neg (fun z => hb z.1)
theorem mL_uLo2 {h : AH} {a j b i : Nat} {v : Int64} (hb : b ≠ a) : mL (uL h a j v) b i = mL h b i := if_neg (fun z => hb z.1)
theorem nz_ne {a : Nat} (h : nZ ≤ a) : a ≠ 0 := by have : (64 : Nat) ≤ a := h; omega
theorem ce_uI {tc : Nat → ClassId} {ad : Nat → Nat} {h : AH} {a j b : Nat} {v : Int32} (hb : b ≠ a) : ce_ tc ad (uI h a j v) b = ce_ tc ad h b := by
  simp only [ce_, fs_, ar_, fv, mS_uI, mR_uI, mL_uI, mI_uIo hb]
theorem ce_uR {tc : Nat → ClassId} {ad : Nat → Nat} {h : AH} {a j b v : Nat} (hb : b ≠ a) : ce_ tc ad (uR h a j v) b = ce_ tc ad h b := by
  simp only [ce_, fs_, ar_, fv, mS_uR, mI_uR, mL_uR, mR_uRo hb]
theorem ce_uL {tc : Nat → ClassId} {ad : Nat → Nat} {h : AH} {a j b : Nat} {v : Int64} (hb : b ≠ a) : ce_ tc ad (uL h a j v) b = ce_ tc ad h b := by
  simp only [ce_, fs_, ar_, fv, mS_uL, mI_uL, mR_uL, mL_uLo hb, mL_uLo2 hb]
  rfl
theorem wf.uI {h : AH} (w : wf h) (a j : Nat) (v : Int32) : wf (uI h a j v) := w
theorem wf.uL {h : AH} (w : wf h) (a j : Nat) (v : Int64) : wf (uL h a j v) := w
theorem wf.uR {h : AH} (w : wf h) (a j : Nat) {v : Nat} (hv : v < mN h) : wf (uR h a j v) := ⟨w.1, fun b i => by
  rw [mR_uR]
  split
  · exact hv
  · exact w.2.1 b i, w.2.2.1, w.2.2.2⟩
theorem sameS.uI {h : AH} {a : Nat} (ha : nZ ≤ a) (j : Nat) (v : Int32) : sameS h (uI h a j v) := fun k hk => ⟨rfl, mI_uIo (by omega), rfl, rfl⟩
theorem sameS.uR {h : AH} {a : Nat} (ha : nZ ≤ a) (j v : Nat) : sameS h (uR h a j v) := fun k hk => ⟨rfl, rfl, mR_uRo (by omega), rfl⟩
theorem sameS.uL {h : AH} {a : Nat} (ha : nZ ≤ a) (j : Nat) (v : Int64) : sameS h (uL h a j v) := fun k hk => ⟨rfl, rfl, rfl, mL_uLo (by omega)⟩
theorem Rel.put {D : va_G} {tc : Nat → ClassId} {A : Nat → Prop} {ad : Nat → Nat} {h h' : AH} {s : State} {H H1 : Heap} {locs locs1 : List Loc} {a : Nat} {E : va_E} (hR : Rel D tc A ad h s H locs) (hP : va_P D CL ((dyn tc ad h).set (a - nZ) (ad a, E)) H1) (hD : va_D A ((dyn tc ad h).set (a - nZ) (ad a, E))) (hS : va_S A s.heap H1 locs1)
    (hE : E = ce_ tc ad h' a) (hn : mN h' = mN h) (hz : nZ ≤ a) (ha : a < mN h) (hb : ∀ b, b ≠ a → ce_ tc ad h' b = ce_ tc ad h b) (hw : wf h') (hh : sameS h h') : Rel D tc A ad h' s H1 locs1 := by
  obtain ⟨r1, r2, r3, r4, r5, r6, r7⟩ := hR
  subst hE
  rw [dyn_set hn hz ha hb] at hP hD
  exact ⟨r1, hP, hD, hS, r5.re r7 (fun _ _ => rfl) hh, r6, hw⟩
theorem Ext.put {n0 : Nat} {ad0 ad : Nat → Nat} {h0 h h' : AH} (hE : Ext n0 ad0 h0 ad h) (hn : mN h' = mN h) (hh : sameS h h') : Ext n0 ad0 h0 ad h' := ⟨by rw [hn]; exact hE.1, hE.2.1, hE.2.2.tr hh⟩
theorem vok_n {h h' : AH} (hn : mN h ≤ mN h') {v : Value} (hv : vok h v) : vok h' v := by
  cases v <;> first | exact hv | exact Nat.lt_of_lt_of_le hv hn
/-- the links of fields, by the tables -/
def FL (own : String) (idx ci k code : Nat) : Prop := ∃ (C : String) (TT : u_T) (N : Nat), CL[ci]? = some (C, TT, N) ∧ (∀ w ∈ u_ws C TT N, w ∈ gw) ∧ k < N ∧ (fc ci)[k]? = some code ∧ ci < 9 ∧
  (Cond.fieldLink own idx (TT k).1 (TT k).2.1 (TT k).2.2.1 ∈ gw ∨ ∃ host, (own, idx, (TT k).1, (TT k).2.1, (TT k).2.2.1, host) ∈ nfl)
def FP (own : String) (idx ci k code : Nat) (ty : FieldType) (fin : Bool) : Prop := ∃ (C : String) (TT : u_T) (N : Nat) (ty0 : Nat → FieldType), CL[ci]? = some (C, TT, N) ∧ (∀ w ∈ u_ws C TT N, w ∈ gw) ∧ k < N ∧ (fc ci)[k]? = some code ∧ ci < 9 ∧
  (Cond.fieldLink own idx (TT k).1 (TT k).2.1 (TT k).2.2.1 ∈ gw ∨ (fin = false ∧ ∃ host, (own, idx, (TT k).1, (TT k).2.1, (TT k).2.2.1, host) ∈ nfl)) ∧
  (∀ k, k < N → parseFieldDescriptor (TT k).2.2.1 = some (ty0 k)) ∧ (∀ a, a < N → ∀ b, b < N → a ≠ b → (TT a).2.1 ≠ (TT b).2.1) ∧ (TT k).2.2.2 = fin ∧ ty0 k = ty ∧ (fin = true → (TT k).1 = own)
section HR
variable {M : Mt} {lv : Nat} {K : Option Value → AH → Prop} {T : String → AH → Prop} {rc rs pc : Nat} {ls : List (Nat × Value)} {st : List Value} {h : AH}
def av (h : AH) (a k c : Nat) : Value := match c with
  | 0 => .int (mI h a k)
  | 1 => .ref (mR h a k)
  | _ => .long (mL h a k)
theorem av_fv (ad : Nat → Nat) (h : AH) (a k c : Nat) : cv ad (av h a k c) = fv ad h a k c := by
  rcases c with _ | _ | c <;> rfl
theorem av_ok {h : AH} (w : wf h) (a k c : Nat) : vok h (av h a k c) := by
  unfold av
  split
  · trivial
  · exact w.2.1 a k
  · trivial
theorem X_get {idx ci k c a : Nat} (hF : FL M.1.cls idx ci k c) (hd : decode M.2.1 pc = .ok (.getfield idx, 3)) (ho : mS h a = (ci + 1, 0)) (kk : X M lv K T rc rs (pc + 3) ls (av h a k c :: st) h) : X M lv K T rc rs pc ls (.ref a :: st) h := by
  intro p l e R s m args below meth cc D tc A n0 ad0 h0 Q ad H locs cells slots la C hR hE hst hls hla hc hs eR eT
  obtain ⟨hx, hb, hml, hret, hts, hown, hlk, htab, hns, hini, hfr, hlo⟩ := id C
  obtain ⟨r1, r2, r3, r4, r5, r6, r7⟩ := id hR
  obtain ⟨CC, TT, N, f1, f2, f3, f4, f5, f6⟩ := hF
  obtain ⟨hz, ha⟩ := r7.dynz ho (by omega) (by omega)
  have k9 := kk p l e R s m args below meth cc D tc A n0 ad0 h0 Q ad H locs cells slots la C hR hE (List.forall_mem_cons.mpr ⟨av_ok r7 a k c, fun v hv => hst v (List.mem_cons_of_mem _ hv)⟩) hls hla hc hs eR eT
  rw [List.map_cons, av_fv] at k9
  rw [List.map_cons, cv_ref (nz_ne hz)]
  have he := dyn_get (tc := tc) (ad := ad) hz ha
  rw [ce_obj ho f5] at he
  rcases f6 with f6 | ⟨host, f6⟩
  · exact va_get hx hb hts f2 hown r1 r2 (a - nZ) he f1 k f3 (hts _ f6) (fun _ h9 => h9) (fs_get f4) hd k9
  · exact va_getN (host := host) hx hb hts f2 hown r1 r2 (a - nZ) he f1 k f3 (va_Nw.use rfl (r5.2.2.2.2.2.2.1 _ f6)) (fun _ h9 => h9) (fs_get f4) hd k9
theorem X_getI {idx ci k a : Nat} (hF : FL M.1.cls idx ci k 0) (hd : decode M.2.1 pc = .ok (.getfield idx, 3)) (ho : mS h a = (ci + 1, 0)) (kk : X M lv K T rc rs (pc + 3) ls (.int (mI h a k) :: st) h) : X M lv K T rc rs pc ls (.ref a :: st) h := X_get hF hd ho kk
theorem X_getR {idx ci k a : Nat} (hF : FL M.1.cls idx ci k 1) (hd : decode M.2.1 pc = .ok (.getfield idx, 3)) (ho : mS h a = (ci + 1, 0)) (kk : X M lv K T rc rs (pc + 3) ls (.ref (mR h a k) :: st) h) : X M lv K T rc rs pc ls (.ref a :: st) h := X_get hF hd ho kk
theorem X_getL {idx ci k a : Nat} (hF : FL M.1.cls idx ci k 2) (hd : decode M.2.1 pc = .ok (.getfield idx, 3)) (ho : mS h a = (ci + 1, 0)) (kk : X M lv K T rc rs (pc + 3) ls (.long (mL h a k) :: st) h) : X M lv K T rc rs pc ls (.ref a :: st) h := X_get hF hd ho kk
/-- a store into a field, of any kind: h' is the heap behind it -/
theorem X_put {idx ci k c a : Nat} {ty : FieldType} {fin : Bool} {v : Value} {h' : AH} (hF : FP M.1.cls idx ci k c ty fin) (hd : decode M.2.1 pc = .ok (.putfield idx, 3)) (ho : mS h a = (ci + 1, 0)) (hfin : fin = true → M.1.name = "<init>")
    (hv : ∀ ad, cv ad v = fv ad h' a k c) (hoth : ∀ ad j c', j ≠ k → fv ad h' a j c' = fv ad h a j c') (hn1 : ∀ ad, narrow ty (cv ad v) = cv ad v) (hfit : ∀ ad, fits ty (cv ad v) = true)
    (hn : mN h' = mN h) (hS : mS h' = mS h) (hb : ∀ tc ad b, b ≠ a → ce_ tc ad h' b = ce_ tc ad h b) (hw : wf h → vok h v → wf h') (hh : nZ ≤ a → sameS h h') (kk : X M lv K T rc rs (pc + 3) ls st h') : X M lv K T rc rs pc ls (v :: .ref a :: st) h := by
  intro p l e R s m args below meth cc D tc A n0 ad0 h0 Q ad H locs cells slots la C hR hE hst hls hla hc hs eR eT
  obtain ⟨hx, hb0, hml, hret, hts, hown, hlk, htab, hns, hini, hfr, hlo⟩ := id C
  obtain ⟨r1, r2, r3, r4, r5, r6, r7⟩ := id hR
  obtain ⟨CC, TT, N, ty0, f1, f2, f3, f4, f5, f6, f7, f8, f9, f10, f11⟩ := hF
  obtain ⟨hz, ha⟩ := r7.dynz ho (by omega) (by omega)
  rw [List.map_cons, List.map_cons, cv_ref (nz_ne hz)]
  have he := dyn_get (tc := tc) (ad := ad) hz ha
  rw [ce_obj ho f5] at he
  have hl : k < (fs_ ad h a ci).length := by rw [fs_len]; exact (List.getElem?_eq_some_iff.mp f4).1
  have hd2 : parseFieldDescriptor (TT k).2.2.1 = some ty := by rw [f7 k f3, f10]
  have hv0 := hst _ List.mem_cons_self
  have k9 : ∀ (H1 : Heap) (locs1 : List Loc), va_P D CL ((dyn tc ad h).set (a - nZ) (ad a, .inr (ci, (fs_ ad h a ci).set k (cv ad v)))) H1 → va_D A ((dyn tc ad h).set (a - nZ) (ad a, .inr (ci, (fs_ ad h a ci).set k (cv ad v)))) → va_S A s.heap H1 locs1 → W p l e R s m args below meth cc H1 locs1 cells slots Q (F0 m (pc + 3) la (st.map (cv ad))) := by
    intro H1 locs1 hP hD hS1
    have hR1 : Rel D tc A ad h' s H1 locs1 := hR.put hP hD hS1 (by
      rw [ce_obj (by rw [hS]; exact ho) f5, hv, fs_set f4 (hoth ad)]) hn hz ha (hb tc ad) (hw r7 hv0) (hh hz)
    exact kk p l e R s m args below meth cc D tc A n0 ad0 h0 Q ad H1 locs1 cells slots la C hR1 (hE.put hn (hh hz)) (fun v hv => vok_n (Nat.le_of_eq hn.symm) (hst v (List.mem_cons_of_mem _ (List.mem_cons_of_mem _ hv)))) (fun q hq => vok_n (Nat.le_of_eq hn.symm) (hls q hq)) hla hc hs eR eT
  cases fin with
  | false =>
    rcases f6 with f6 | ⟨-, host, f6⟩
    · exact va_put hx hb0 hts f2 ty0 f7 f8 hown r1 r2 r3 r4 (a - nZ) he f1 k f3 (hts _ f6) (fun _ h9 => h9) f9 hd2 (hn1 ad) (hfit ad) hl hd k9
    · exact va_putN (host := host) hx hb0 hts f2 ty0 f7 f8 hown r1 r2 r3 r4 (a - nZ) he f1 k f3 (va_Nw.use rfl (r5.2.2.2.2.2.2.1 _ f6)) (fun _ h9 => h9) f9 hd2 (hn1 ad) (hfit ad) hl hd k9
  | true =>
    rcases f6 with f6 | ⟨h9, -⟩
    · exact va_putF hx hb0 hts f2 ty0 f7 f8 hown r1 r2 r3 r4 (a - nZ) he f1 k f3 (hts _ f6) (fun _ h9 => h9) f9 (hini (hfin rfl)) (f11 rfl) hd2 (hn1 ad) (hfit ad) hl hd k9
    · cases h9
theorem fv_uIo {ad : Nat → Nat} {h : AH} {a k : Nat} {x : Int32} (j c' : Nat) (hj : j ≠ k) : fv ad (uI h a k x) a j c' = fv ad h a j c' := by
  unfold fv
  simp only [mI_uI, mR_uI, mL_uI, hj, and_false, if_false]
theorem fv_uRo {ad : Nat → Nat} {h : AH} {a k x : Nat} (j c' : Nat) (hj : j ≠ k) : fv ad (uR h a k x) a j c' = fv ad h a j c' := by
  unfold fv
  simp only [mR_uR, mI_uR, mL_uR, hj, and_false, if_false]
theorem fv_uLo {ad : Nat → Nat} {h : AH} {a k : Nat} {x : Int64} (j c' : Nat) (hj : j ≠ k) : fv ad (uL h a k x) a j c' = fv ad h a j c' := by
  unfold fv
  simp only [mL_uL, mI_uL, mR_uL, hj, and_false, if_false]
theorem X_putI {idx ci k a : Nat} {ty : FieldType} {fin : Bool} {x : Int32} (hF : FP M.1.cls idx ci k 0 ty fin) (hd : decode M.2.1 pc = .ok (.putfield idx, 3)) (hfin : fin = true → M.1.name = "<init>") (ho : mS h a = (ci + 1, 0)) (hn1 : narrow ty (.int x) = .int x) (hfit : fits ty (.int x) = true)
    (kk : X M lv K T rc rs (pc + 3) ls st (uI h a k x)) : X M lv K T rc rs pc ls (.int x :: .ref a :: st) h :=
  X_put hF hd ho hfin (fun ad => by simp only [fv, mI_uI, and_self, if_true, cv]) (fun ad j c' hj => fv_uIo j c' hj) (fun ad => hn1) (fun ad => hfit) rfl rfl (fun tc ad b hb => ce_uI hb) (fun w _ => w.uI a k x) (fun hz => sameS.uI hz k x) kk
theorem X_putR {idx ci k a b : Nat} {ty : FieldType} {fin : Bool} (hF : FP M.1.cls idx ci k 1 ty fin) (hd : decode M.2.1 pc = .ok (.putfield idx, 3)) (hfin : fin = true → M.1.name = "<init>") (hty : (∃ n, ty = .object n) ∨ ∃ t, ty = .array t) (ho : mS h a = (ci + 1, 0))
    (kk : X M lv K T rc rs (pc + 3) ls st (uR h a k b)) : X M lv K T rc rs pc ls (.ref b :: .ref a :: st) h :=
  X_put hF hd ho hfin (fun ad => by simp only [fv, mR_uR, and_self, if_true]) (fun ad j c' hj => fv_uRo j c' hj) (fun ad => by
    rcases hty with ⟨n, rfl⟩ | ⟨t, rfl⟩ <;> (unfold cv; by_cases z : b = 0 <;> simp [z, narrow])) (fun ad => by
    rcases hty with ⟨n, rfl⟩ | ⟨t, rfl⟩ <;> (unfold cv; by_cases z : b = 0 <;> simp [z, fits])) rfl rfl (fun tc ad b hb => ce_uR hb) (fun w hv => w.uR a k hv) (fun hz => sameS.uR hz k b) kk
theorem X_putL {idx ci k a : Nat} {fin : Bool} {x : Int64} (hF : FP M.1.cls idx ci k 2 .long fin) (hd : decode M.2.1 pc = .ok (.putfield idx, 3)) (hfin : fin = true → M.1.name = "<init>") (ho : mS h a = (ci + 1, 0))
    (kk : X M lv K T rc rs (pc + 3) ls st (uL h a k x)) : X M lv K T rc rs pc ls (.long x :: .ref a :: st) h :=
  X_put hF hd ho hfin (fun ad => by simp only [fv, mL_uL, and_self, if_true, cv]) (fun ad j c' hj => fv_uLo j c' hj) (fun ad => rfl) (fun ad => rfl) rfl rfl (fun tc ad b hb => ce_uL hb) (fun w _ => w.uL a k x) (fun hz => sameS.uL hz k x) kk
end HR
end
section
/-! ARRAYS, STATICS, NEW CELLS -/
section AR
variable {M : Mt} {lv : Nat} {K : Option Value → AH → Prop} {T : String → AH → Prop} {rc rs pc : Nat} {ls : List (Nat × Value)} {st : List Value} {h : AH}
theorem X_getS {idx a j kd c : Nat} {o n d : String} (hd : decode M.2.1 pc = .ok (.getfield idx, 3)) (hk : kd = 20 ∨ kd = 21) (hq : (sFd kd)[j]? = some (o, n, d)) (hcd : (fc (kd - 1)).getD j 0 = c)
    (hl : Cond.fieldLink M.1.cls idx o n d ∈ gw ∨ ∃ host, (M.1.cls, idx, o, n, d, host) ∈ nfl) (ho : mS h a = (kd, 0)) (hz : a < nZ) (kk : X M lv K T rc rs (pc + 3) ls (av h a j c :: st) h) : X M lv K T rc rs pc ls (.ref a :: st) h := by
  intro p l e R s m args below meth cc D tc A n0 ad0 h0 Q ad H locs cells slots la C hR hE hst hls hla hc hs eR eT
  obtain ⟨hx, hb, hml, hret, hts, hown, hlk, htab, hns, hini, hfr, hlo⟩ := id C
  obtain ⟨r1, r2, r3, r4, r5, r6, r7⟩ := id hR
  have h9 := ((r5.1 a hz).1 (by rw [ho]; exact hk)).2 j (o, n, d) (by rw [ho]; exact hq)
  rw [ho] at h9
  simp only [hcd] at h9
  have hne : a ≠ 0 := fun z => by
    subst z
    rw [r7.2.2.2.2] at ho
    cases ho
    rcases hk with hk | hk <;> cases hk
  have k9 := kk p l e R s m args below meth cc D tc A n0 ad0 h0 Q ad H locs cells slots la C hR hE (List.forall_mem_cons.mpr ⟨av_ok r7 a j c, (fun v hv => hst v (List.mem_cons_of_mem _ hv))⟩) hls hla hc hs eR eT
  rw [List.map_cons, av_fv] at k9
  rw [List.map_cons, cv_ref hne]
  rcases hl with hl | ⟨host, hl⟩
  · exact vk_getf hx hb h9 r4 hown (hts _ hl) (fun _ h => h) hd k9
  · obtain ⟨cf, k, fi, f, cell, h1, h2, h3, h4, h5, h6⟩ := h9.kept r4.2.1
    exact va_Wgetf hx hb hown (va_Nw.use rfl (r5.2.2.2.2.2.2.1 _ hl)) h1 h2 h3 h4 (v := fv ad h a j c) h5 rfl rfl hd k9
theorem X_getstI {idx j : Nat} {o n d : String} {v : Int32} {x : Nat} (hq : zsl[j]? = some (o, n, d, 0, v, x)) (hl : Cond.fieldLink M.1.cls idx o n d ∈ gw) (hd : decode M.2.1 pc = .ok (.getstatic idx, 3)) (kk : X M lv K T rc rs (pc + 3) ls (.int v :: st) h) : X M lv K T rc rs pc ls st h := by
  intro p l e R s m args below meth cc D tc A n0 ad0 h0 Q ad H locs cells slots la C hR hE hst hls hla hc hs eR eT
  obtain ⟨hx, hb, hml, hret, hts, hown, hlk, htab, hns, hini, hfr, hlo⟩ := id C
  obtain ⟨r1, r2, r3, r4, r5, r6, r7⟩ := id hR
  have h9 := r5.2.2.2.1 _ (List.mem_of_getElem? hq)
  exact va_gets hx hb h9 r4 hown (hts _ hl) (fun _ h => h) hd (kk p l e R s m args below meth cc D tc A n0 ad0 h0 Q ad H locs cells slots la C hR hE (List.forall_mem_cons.mpr ⟨trivial, hst⟩) hls hla hc hs eR eT)
theorem X_getstR {idx j : Nat} {o n d : String} {v : Int32} {x : Nat} (hq : zsl[j]? = some (o, n, d, 1, v, x)) (hne : x ≠ 0) (hl : Cond.fieldLink M.1.cls idx o n d ∈ gw) (hd : decode M.2.1 pc = .ok (.getstatic idx, 3)) (kk : X M lv K T rc rs (pc + 3) ls (.ref x :: st) h) : X M lv K T rc rs pc ls st h := by
  intro p l e R s m args below meth cc D tc A n0 ad0 h0 Q ad H locs cells slots la C hR hE hst hls hla hc hs eR eT
  obtain ⟨hx, hb, hml, hret, hts, hown, hlk, htab, hns, hini, hfr, hlo⟩ := id C
  obtain ⟨r1, r2, r3, r4, r5, r6, r7⟩ := id hR
  have hm := List.mem_of_getElem? hq
  have h9 := r5.2.2.2.1 _ hm
  have hz : x < nZ := (show ∀ q ∈ zsl, q.2.2.2.2.2 < nZ by decide +kernel) _ hm
  have k9 := kk p l e R s m args below meth cc D tc A n0 ad0 h0 Q ad H locs cells slots la C hR hE (List.forall_mem_cons.mpr ⟨Nat.lt_of_lt_of_le hz r7.1, hst⟩) hls hla hc hs eR eT
  rw [List.map_cons, cv_ref hne] at k9
  exact va_gets hx hb h9 r4 hown (hts _ hl) (fun _ h => h) hd k9
theorem X_ldcS {idx j : Nat} {tx : String} {x : Nat} (hq : stl[j]? = some (M.1.cls, idx, tx, x)) (hne : x ≠ 0) {n : Nat} (hn : n = 2) (hd : decode M.2.1 pc = .ok (.ldc idx, 2)) (kk : X M lv K T rc rs (pc + 2) ls (.ref x :: st) h) : X M lv K T rc rs pc ls st h := by
  intro p l e R s m args below meth cc D tc A n0 ad0 h0 Q ad H locs cells slots la C hR hE hst hls hla hc hs eR eT
  obtain ⟨hx, hb, hml, hret, hts, hown, hlk, htab, hns, hini, hfr, hlo⟩ := id C
  obtain ⟨r1, r2, r3, r4, r5, r6, r7⟩ := id hR
  have hm := List.mem_of_getElem? hq
  have h9 := r5.2.2.2.2.1 _ hm
  have hz : x < nZ := (show ∀ q ∈ stl, q.2.2.2 < nZ by decide +kernel) _ hm
  have k9 := kk p l e R s m args below meth cc D tc A n0 ad0 h0 Q ad H locs cells slots la C hR hE (List.forall_mem_cons.mpr ⟨Nat.lt_of_lt_of_le hz r7.1, hst⟩) hls hla hc hs eR eT
  rw [List.map_cons, cv_ref hne] at k9
  exact va_ldcS hx hb hown h9 hd k9
theorem wf.ne0 {h : AH} (w : wf h) {a k n : Nat} (ho : mS h a = (k, n)) (hk : k ≠ 0) : a ≠ 0 := fun z => by
  subst z
  rw [w.2.2.2.2] at ho
  cases ho
  exact hk rfl
theorem X_iald {a n : Nat} {i : Int32} (hd : decode M.2.1 pc = .ok (.iaload, 1)) (ho : mS h a = (100, n)) (hi : vp_in i n) (kk : X M lv K T rc rs (pc + 1) ls (.int (mI h a i.toNatClampNeg) :: st) h) : X M lv K T rc rs pc ls (.int i :: .ref a :: st) h := by
  intro p l e R s m args below meth cc D tc A n0 ad0 h0 Q ad H locs cells slots la C hR hE hst hls hla hc hs eR eT
  obtain ⟨hx, hb, hml, hret, hts, hown, hlk, htab, hns, hini, hfr, hlo⟩ := id C
  obtain ⟨r1, r2, r3, r4, r5, r6, r7⟩ := id hR
  have hne := r7.ne0 ho (by decide)
  have hlt := r7.lt ho (by decide)
  have k9 := kk p l e R s m args below meth cc D tc A n0 ad0 h0 Q ad H locs cells slots la C hR hE (List.forall_mem_cons.mpr ⟨trivial, (fun v hv => hst v (List.mem_cons_of_mem _ (List.mem_cons_of_mem _ hv)))⟩) hls hla hc hs eR eT
  rw [List.map_cons, List.map_cons, cv_ref hne]
  rw [List.map_cons] at k9
  by_cases hz : a < nZ
  · have h9 := (r5.1 a hz).2 (by rw [ho]; exact (show (100 : Nat) ≤ 100 + 0 by decide))
    rw [ho] at h9
    exact va_ti hx hb h9 r4 hi rfl hd k9
  · have he := dyn_get (tc := tc) (ad := ad) (Nat.le_of_not_lt hz) hlt
    rw [ce_arr (t := 0) ho] at he
    exact va_iald hx hb r1 r2 (a - nZ) 0 he rfl hi hd k9
theorem X_bald {a n : Nat} {i : Int32} (hd : decode M.2.1 pc = .ok (.baload, 1)) (ho : mS h a = (103, n)) (hi : vp_in i n) (kk : X M lv K T rc rs (pc + 1) ls (.int (mI h a i.toNatClampNeg) :: st) h) : X M lv K T rc rs pc ls (.int i :: .ref a :: st) h := by
  intro p l e R s m args below meth cc D tc A n0 ad0 h0 Q ad H locs cells slots la C hR hE hst hls hla hc hs eR eT
  obtain ⟨hx, hb, hml, hret, hts, hown, hlk, htab, hns, hini, hfr, hlo⟩ := id C
  obtain ⟨r1, r2, r3, r4, r5, r6, r7⟩ := id hR
  have hne := r7.ne0 ho (by decide)
  have hlt := r7.lt ho (by decide)
  have k9 := kk p l e R s m args below meth cc D tc A n0 ad0 h0 Q ad H locs cells slots la C hR hE (List.forall_mem_cons.mpr ⟨trivial, (fun v hv => hst v (List.mem_cons_of_mem _ (List.mem_cons_of_mem _ hv)))⟩) hls hla hc hs eR eT
  rw [List.map_cons, List.map_cons, cv_ref hne]
  rw [List.map_cons] at k9
  by_cases hz : a < nZ
  · have h9 := (r5.1 a hz).2 (by rw [ho]; exact (show (100 : Nat) ≤ 100 + 3 by decide))
    rw [ho] at h9
    exact va_tb hx hb h9 r4 hi rfl hd k9
  · have he := dyn_get (tc := tc) (ad := ad) (Nat.le_of_not_lt hz) hlt
    rw [ce_arr (t := 3) ho] at he
    exact va_bald hx hb r1 r2 (a - nZ) 3 he rfl hi hd k9
theorem X_cald {a n : Nat} {i : Int32} (hd : decode M.2.1 pc = .ok (.caload, 1)) (ho : mS h a = (104, n)) (hi : vp_in i n) (kk : X M lv K T rc rs (pc + 1) ls (.int (mI h a i.toNatClampNeg) :: st) h) : X M lv K T rc rs pc ls (.int i :: .ref a :: st) h := by
  intro p l e R s m args below meth cc D tc A n0 ad0 h0 Q ad H locs cells slots la C hR hE hst hls hla hc hs eR eT
  obtain ⟨hx, hb, hml, hret, hts, hown, hlk, htab, hns, hini, hfr, hlo⟩ := id C
  obtain ⟨r1, r2, r3, r4, r5, r6, r7⟩ := id hR
  have hne := r7.ne0 ho (by decide)
  have hlt := r7.lt ho (by decide)
  have k9 := kk p l e R s m args below meth cc D tc A n0 ad0 h0 Q ad H locs cells slots la C hR hE (List.forall_mem_cons.mpr ⟨trivial, (fun v hv => hst v (List.mem_cons_of_mem _ (List.mem_cons_of_mem _ hv)))⟩) hls hla hc hs eR eT
  rw [List.map_cons, List.map_cons, cv_ref hne]
  rw [List.map_cons] at k9
  by_cases hz : a < nZ
  · have h9 := (r5.1 a hz).2 (by rw [ho]; exact (show (100 : Nat) ≤ 100 + 4 by decide))
    rw [ho] at h9
    exact va_tc hx hb h9 r4 hi rfl hd k9
  · have he := dyn_get (tc := tc) (ad := ad) (Nat.le_of_not_lt hz) hlt
    rw [ce_arr (t := 4) ho] at he
    exact va_cald hx hb r1 r2 (a - nZ) 4 he rfl hi hd k9
theorem X_lald {a n : Nat} {i : Int32} (hd : decode M.2.1 pc = .ok (.laload, 1)) (ho : mS h a = (101, n)) (hi : vp_in i n) (kk : X M lv K T rc rs (pc + 1) ls (.long (mL h a i.toNatClampNeg) :: st) h) : X M lv K T rc rs pc ls (.int i :: .ref a :: st) h := by
  intro p l e R s m args below meth cc D tc A n0 ad0 h0 Q ad H locs cells slots la C hR hE hst hls hla hc hs eR eT
  obtain ⟨hx, hb, hml, hret, hts, hown, hlk, htab, hns, hini, hfr, hlo⟩ := id C
  obtain ⟨r1, r2, r3, r4, r5, r6, r7⟩ := id hR
  have hne := r7.ne0 ho (by decide)
  have hlt := r7.lt ho (by decide)
  have k9 := kk p l e R s m args below meth cc D tc A n0 ad0 h0 Q ad H locs cells slots la C hR hE (List.forall_mem_cons.mpr ⟨trivial, (fun v hv => hst v (List.mem_cons_of_mem _ (List.mem_cons_of_mem _ hv)))⟩) hls hla hc hs eR eT
  rw [List.map_cons, List.map_cons, cv_ref hne]
  rw [List.map_cons] at k9
  by_cases hz : a < nZ
  · have h9 := (r5.1 a hz).2 (by rw [ho]; exact (show (100 : Nat) ≤ 100 + 1 by decide))
    rw [ho] at h9
    exact va_tl hx hb h9 r4 hi rfl hd k9
  · have he := dyn_get (tc := tc) (ad := ad) (Nat.le_of_not_lt hz) hlt
    rw [ce_arr (t := 1) ho] at he
    exact va_lald hx hb r1 r2 (a - nZ) 1 he rfl hi hd k9
theorem X_aaldS {a n : Nat} {i : Int32} (hd : decode M.2.1 pc = .ok (.aaload, 1)) (ho : mS h a = (105, n)) (hi : vp_in i n) (kk : X M lv K T rc rs (pc + 1) ls (.ref (mR h a i.toNatClampNeg) :: st) h) : X M lv K T rc rs pc ls (.int i :: .ref a :: st) h := by
  intro p l e R s m args below meth cc D tc A n0 ad0 h0 Q ad H locs cells slots la C hR hE hst hls hla hc hs eR eT
  obtain ⟨hx, hb, hml, hret, hts, hown, hlk, htab, hns, hini, hfr, hlo⟩ := id C
  obtain ⟨r1, r2, r3, r4, r5, r6, r7⟩ := id hR
  have hne := r7.ne0 ho (by decide)
  have hlt := r7.lt ho (by decide)
  have k9 := kk p l e R s m args below meth cc D tc A n0 ad0 h0 Q ad H locs cells slots la C hR hE (List.forall_mem_cons.mpr ⟨r7.2.1 a _, (fun v hv => hst v (List.mem_cons_of_mem _ (List.mem_cons_of_mem _ hv)))⟩) hls hla hc hs eR eT
  rw [List.map_cons, List.map_cons, cv_ref hne]
  rw [List.map_cons] at k9
  rw [cv_rf] at k9
  by_cases hz : a < nZ
  · have h9 := (r5.1 a hz).2 (by rw [ho]; exact (show (100 : Nat) ≤ 100 + 5 by decide))
    rw [ho] at h9
    exact vb_tq hx hb h9 r4 hi (cv_rf ad _) hd k9
  · have he := dyn_get (tc := tc) (ad := ad) (Nat.le_of_not_lt hz) hlt
    rw [ce_arr (t := 5) ho] at he
    exact va_aldq hx hb r1 r2 (a - nZ) 5 he rfl hi hd k9
theorem X_aaldT {a n : Nat} {i : Int32} (hd : decode M.2.1 pc = .ok (.aaload, 1)) (ho : mS h a = (106, n)) (hi : vp_in i n) (kk : X M lv K T rc rs (pc + 1) ls (.ref (mR h a i.toNatClampNeg) :: st) h) : X M lv K T rc rs pc ls (.int i :: .ref a :: st) h := by
  intro p l e R s m args below meth cc D tc A n0 ad0 h0 Q ad H locs cells slots la C hR hE hst hls hla hc hs eR eT
  obtain ⟨hx, hb, hml, hret, hts, hown, hlk, htab, hns, hini, hfr, hlo⟩ := id C
  obtain ⟨r1, r2, r3, r4, r5, r6, r7⟩ := id hR
  have hne := r7.ne0 ho (by decide)
  have hlt := r7.lt ho (by decide)
  have k9 := kk p l e R s m args below meth cc D tc A n0 ad0 h0 Q ad H locs cells slots la C hR hE (List.forall_mem_cons.mpr ⟨r7.2.1 a _, (fun v hv => hst v (List.mem_cons_of_mem _ (List.mem_cons_of_mem _ hv)))⟩) hls hla hc hs eR eT
  rw [List.map_cons, List.map_cons, cv_ref hne]
  rw [List.map_cons] at k9
  rw [cv_rf] at k9
  by_cases hz : a < nZ
  · have h9 := (r5.1 a hz).2 (by rw [ho]; exact (show (100 : Nat) ≤ 100 + 6 by decide))
    rw [ho] at h9
    exact vb_tq hx hb h9 r4 hi (cv_rf ad _) hd k9
  · have he := dyn_get (tc := tc) (ad := ad) (Nat.le_of_not_lt hz) hlt
    rw [ce_arr (t := 6) ho] at he
    exact va_aldq hx hb r1 r2 (a - nZ) 6 he rfl hi hd k9
theorem X_aaldC {a n : Nat} {i : Int32} (hd : decode M.2.1 pc = .ok (.aaload, 1)) (ho : mS h a = (107, n)) (hi : vp_in i n) (kk : X M lv K T rc rs (pc + 1) ls (.ref (mR h a i.toNatClampNeg) :: st) h) : X M lv K T rc rs pc ls (.int i :: .ref a :: st) h := by
  intro p l e R s m args below meth cc D tc A n0 ad0 h0 Q ad H locs cells slots la C hR hE hst hls hla hc hs eR eT
  obtain ⟨hx, hb, hml, hret, hts, hown, hlk, htab, hns, hini, hfr, hlo⟩ := id C
  obtain ⟨r1, r2, r3, r4, r5, r6, r7⟩ := id hR
  have hne := r7.ne0 ho (by decide)
  have hlt := r7.lt ho (by decide)
  have k9 := kk p l e R s m args below meth cc D tc A n0 ad0 h0 Q ad H locs cells slots la C hR hE (List.forall_mem_cons.mpr ⟨r7.2.1 a _, (fun v hv => hst v (List.mem_cons_of_mem _ (List.mem_cons_of_mem _ hv)))⟩) hls hla hc hs eR eT
  rw [List.map_cons, List.map_cons, cv_ref hne]
  rw [List.map_cons] at k9
  rw [cv_rf] at k9
  by_cases hz : a < nZ
  · have h9 := (r5.1 a hz).2 (by rw [ho]; exact (show (100 : Nat) ≤ 100 + 7 by decide))
    rw [ho] at h9
    exact vb_tq hx hb h9 r4 hi (cv_rf ad _) hd k9
  · have he := dyn_get (tc := tc) (ad := ad) (Nat.le_of_not_lt hz) hlt
    rw [ce_arr (t := 7) ho] at he
    exact va_aldq hx hb r1 r2 (a - nZ) 7 he rfl hi hd k9
theorem X_dald {a n : Nat} {i : Int32} (hd : decode M.2.1 pc = .ok (.daload, 1)) (ho : mS h a = (102, n)) (hz : nZ ≤ a) (hi : vp_in i n) (kk : X M lv K T rc rs (pc + 1) ls (.double (mL h a i.toNatClampNeg).toUInt64 :: st) h) : X M lv K T rc rs pc ls (.int i :: .ref a :: st) h := by
  intro p l e R s m args below meth cc D tc A n0 ad0 h0 Q ad H locs cells slots la C hR hE hst hls hla hc hs eR eT
  obtain ⟨hx, hb, hml, hret, hts, hown, hlk, htab, hns, hini, hfr, hlo⟩ := id C
  obtain ⟨r1, r2, r3, r4, r5, r6, r7⟩ := id hR
  have hne := r7.ne0 ho (by decide)
  have hlt := r7.lt ho (by decide)
  have k9 := kk p l e R s m args below meth cc D tc A n0 ad0 h0 Q ad H locs cells slots la C hR hE (List.forall_mem_cons.mpr ⟨trivial, (fun v hv => hst v (List.mem_cons_of_mem _ (List.mem_cons_of_mem _ hv)))⟩) hls hla hc hs eR eT
  rw [List.map_cons, List.map_cons, cv_ref hne]
  have he := dyn_get (tc := tc) (ad := ad) hz hlt
  rw [ce_arr (t := 2) ho] at he
  exact va_dald hx hb r1 r2 (a - nZ) 2 he rfl hi hd k9
theorem X_aaldA {a n : Nat} {i : Int32} (hd : decode M.2.1 pc = .ok (.aaload, 1)) (ho : mS h a = (108, n)) (hz : nZ ≤ a) (hi : vp_in i n) (kk : X M lv K T rc rs (pc + 1) ls (.ref (mR h a i.toNatClampNeg) :: st) h) : X M lv K T rc rs pc ls (.int i :: .ref a :: st) h := by
  intro p l e R s m args below meth cc D tc A n0 ad0 h0 Q ad H locs cells slots la C hR hE hst hls hla hc hs eR eT
  obtain ⟨hx, hb, hml, hret, hts, hown, hlk, htab, hns, hini, hfr, hlo⟩ := id C
  obtain ⟨r1, r2, r3, r4, r5, r6, r7⟩ := id hR
  have hne := r7.ne0 ho (by decide)
  have hlt := r7.lt ho (by decide)
  have k9 := kk p l e R s m args below meth cc D tc A n0 ad0 h0 Q ad H locs cells slots la C hR hE (List.forall_mem_cons.mpr ⟨r7.2.1 a _, (fun v hv => hst v (List.mem_cons_of_mem _ (List.mem_cons_of_mem _ hv)))⟩) hls hla hc hs eR eT
  rw [List.map_cons, List.map_cons, cv_ref hne]
  rw [List.map_cons, cv_rf] at k9
  have he := dyn_get (tc := tc) (ad := ad) hz hlt
  rw [ce_arr (t := 8) ho] at he
  have he : (dyn tc ad h)[a - nZ]? = some (ad a, .inl (tc 8, (n, .inr (.inr (.inr (.inr (fun i => rf ad (mR h a i)))))))) := he
  have hlt2 : i.toNatClampNeg < n := Nat.not_le.mp fun q => hi (Or.inr q)
  have ht : (tys tc)[8]? = some (tc 8, .array .int) := rfl
  exact W.aald (v := va_rf (rf ad (mR h a i.toNatClampNeg))) (ty := .array .int) hx hb (r2 (a - nZ) _ he) ((r1.2 8 _ ht).1 n (fun j => va_rf (rf ad (mR h a j)))) rfl (fun q => by cases q) (by show ¬ (i < 0 ∨ (arrV _ _ _).slots.size ≤ _); rw [arrV_size]; exact hi) (by show (arrV _ _ _).slots[_]? = _; rw [arrV_read _ _ hlt2]) rfl rfl hd k9
theorem X_alen {a t n : Nat} {v : Int32} (hd : decode M.2.1 pc = .ok (.arraylength, 1)) (ht9 : t < 9) (ho : mS h a = (100 + t, n)) (hv : Int32.ofNat n = v) (kk : X M lv K T rc rs (pc + 1) ls (.int v :: st) h) : X M lv K T rc rs pc ls (.ref a :: st) h := by
  intro p l e R s m args below meth cc D tc A n0 ad0 h0 Q ad H locs cells slots la C hR hE hst hls hla hc hs eR eT
  obtain ⟨hx, hb, hml, hret, hts, hown, hlk, htab, hns, hini, hfr, hlo⟩ := id C
  obtain ⟨r1, r2, r3, r4, r5, r6, r7⟩ := id hR
  have hne := r7.ne0 ho (by omega)
  have hlt := r7.lt ho (by omega)
  have k9 := kk p l e R s m args below meth cc D tc A n0 ad0 h0 Q ad H locs cells slots la C hR hE (List.forall_mem_cons.mpr ⟨trivial, (fun v hv => hst v (List.mem_cons_of_mem _ hv))⟩) hls hla hc hs eR eT
  rw [List.map_cons, cv_ref hne]
  by_cases hz : a < nZ
  · have h9 := (r5.1 a hz).2 (by rw [ho]; exact Nat.le_add_right 100 t)
    rw [ho] at h9
    exact va_tlen hx hb h9 r4 hv hd k9
  · have he := dyn_get (tc := tc) (ad := ad) (Nat.le_of_not_lt hz) hlt
    rw [ce_arr ho] at he
    have ht : (tys tc)[t]? = some (tc t, ty_ t) := by
      unfold tys
      rw [List.getElem?_map, List.getElem?_range ht9]
      rfl
    exact va_alen hx hb r1 r2 (a - nZ) t he ht hv hd k9
theorem X_iast {a n : Nat} {i : Int32} {x : Int32} (hd : decode M.2.1 pc = .ok (.iastore, 1)) (ho : mS h a = (100, n)) (hz : nZ ≤ a) (hi : vp_in i n) (kk : X M lv K T rc rs (pc + 1) ls st (uI h a i.toNatClampNeg x)) : X M lv K T rc rs pc ls (.int x :: .int i :: .ref a :: st) h := by
  intro p l e R s m args below meth cc D tc A n0 ad0 h0 Q ad H locs cells slots la C hR hE hst hls hla hc hs eR eT
  obtain ⟨hx, hb, hml, hret, hts, hown, hlk, htab, hns, hini, hfr, hlo⟩ := id C
  obtain ⟨r1, r2, r3, r4, r5, r6, r7⟩ := id hR
  have hne := r7.ne0 ho (by decide)
  have hlt := r7.lt ho (by decide)
  rw [List.map_cons, List.map_cons, List.map_cons, cv_ref hne]
  have he := dyn_get (tc := tc) (ad := ad) hz hlt
  rw [ce_arr (t := 0) ho] at he
  refine va_iast hx hb r1 r2 r3 r4 (a - nZ) 0 he rfl hi hd (fun H1 locs1 hP hD hS1 => ?_)
  have hR1 : Rel D tc A ad (uI h a i.toNatClampNeg x) s H1 locs1 := hR.put hP hD hS1 (by
    rw [ce_arr (t := 0) (h := uI h a i.toNatClampNeg x) (a := a) (n := n) ho]
    unfold ar_
    simp only [show ¬ (0 : Nat) = 1 by decide, show ¬ (0 : Nat) = 2 by decide, show ¬ 5 ≤ (0 : Nat) by decide, if_false]
    refine congrArg (fun f => (Sum.inl (tc 0, n, Sum.inl f) : va_E)) (funext fun z => ?_)
    simp only [upd, mI_uI, true_and]) rfl hz hlt (fun b hb => ce_uI hb) (r7.uI a _ _) (sameS.uI hz _ _)
  exact kk p l e R s m args below meth cc D tc A n0 ad0 h0 Q ad H1 locs1 cells slots la C hR1 (hE.put rfl (sameS.uI hz _ _)) (fun v hv => hst v (List.mem_cons_of_mem _ (List.mem_cons_of_mem _ (List.mem_cons_of_mem _ hv)))) hls hla hc hs eR eT
theorem X_bast {a n : Nat} {i : Int32} {x : Int32} (hd : decode M.2.1 pc = .ok (.bastore, 1)) (ho : mS h a = (103, n)) (hz : nZ ≤ a) (hi : vp_in i n) (kk : X M lv K T rc rs (pc + 1) ls st (uI h a i.toNatClampNeg (vp_nar .byte x))) : X M lv K T rc rs pc ls (.int x :: .int i :: .ref a :: st) h := by
  intro p l e R s m args below meth cc D tc A n0 ad0 h0 Q ad H locs cells slots la C hR hE hst hls hla hc hs eR eT
  obtain ⟨hx, hb, hml, hret, hts, hown, hlk, htab, hns, hini, hfr, hlo⟩ := id C
  obtain ⟨r1, r2, r3, r4, r5, r6, r7⟩ := id hR
  have hne := r7.ne0 ho (by decide)
  have hlt := r7.lt ho (by decide)
  rw [List.map_cons, List.map_cons, List.map_cons, cv_ref hne]
  have he := dyn_get (tc := tc) (ad := ad) hz hlt
  rw [ce_arr (t := 3) ho] at he
  refine va_bast hx hb r1 r2 r3 r4 (a - nZ) 3 he rfl hi hd (fun H1 locs1 hP hD hS1 => ?_)
  have hR1 : Rel D tc A ad (uI h a i.toNatClampNeg (vp_nar .byte x)) s H1 locs1 := hR.put hP hD hS1 (by
    rw [ce_arr (t := 3) (h := uI h a i.toNatClampNeg (vp_nar .byte x)) (a := a) (n := n) ho]
    unfold ar_
    simp only [show ¬ (3 : Nat) = 1 by decide, show ¬ (3 : Nat) = 2 by decide, show ¬ 5 ≤ (3 : Nat) by decide, if_false]
    refine congrArg (fun f => (Sum.inl (tc 3, n, Sum.inl f) : va_E)) (funext fun z => ?_)
    simp only [upd, mI_uI, true_and]) rfl hz hlt (fun b hb => ce_uI hb) (r7.uI a _ _) (sameS.uI hz _ _)
  exact kk p l e R s m args below meth cc D tc A n0 ad0 h0 Q ad H1 locs1 cells slots la C hR1 (hE.put rfl (sameS.uI hz _ _)) (fun v hv => hst v (List.mem_cons_of_mem _ (List.mem_cons_of_mem _ (List.mem_cons_of_mem _ hv)))) hls hla hc hs eR eT
theorem X_cast {a n : Nat} {i : Int32} {x : Int32} (hd : decode M.2.1 pc = .ok (.castore, 1)) (ho : mS h a = (104, n)) (hz : nZ ≤ a) (hi : vp_in i n) (kk : X M lv K T rc rs (pc + 1) ls st (uI h a i.toNatClampNeg (vp_nar .char x))) : X M lv K T rc rs pc ls (.int x :: .int i :: .ref a :: st) h := by
  intro p l e R s m args below meth cc D tc A n0 ad0 h0 Q ad H locs cells slots la C hR hE hst hls hla hc hs eR eT
  obtain ⟨hx, hb, hml, hret, hts, hown, hlk, htab, hns, hini, hfr, hlo⟩ := id C
  obtain ⟨r1, r2, r3, r4, r5, r6, r7⟩ := id hR
  have hne := r7.ne0 ho (by decide)
  have hlt := r7.lt ho (by decide)
  rw [List.map_cons, List.map_cons, List.map_cons, cv_ref hne]
  have he := dyn_get (tc := tc) (ad := ad) hz hlt
  rw [ce_arr (t := 4) ho] at he
  refine va_cast hx hb r1 r2 r3 r4 (a - nZ) 4 he rfl hi hd (fun H1 locs1 hP hD hS1 => ?_)
  have hR1 : Rel D tc A ad (uI h a i.toNatClampNeg (vp_nar .char x)) s H1 locs1 := hR.put hP hD hS1 (by
    rw [ce_arr (t := 4) (h := uI h a i.toNatClampNeg (vp_nar .char x)) (a := a) (n := n) ho]
    unfold ar_
    simp only [show ¬ (4 : Nat) = 1 by decide, show ¬ (4 : Nat) = 2 by decide, show ¬ 5 ≤ (4 : Nat) by decide, if_false]
    refine congrArg (fun f => (Sum.inl (tc 4, n, Sum.inl f) : va_E)) (funext fun z => ?_)
    simp only [upd, mI_uI, true_and]) rfl hz hlt (fun b hb => ce_uI hb) (r7.uI a _ _) (sameS.uI hz _ _)
  exact kk p l e R s m args below meth cc D tc A n0 ad0 h0 Q ad H1 locs1 cells slots la C hR1 (hE.put rfl (sameS.uI hz _ _)) (fun v hv => hst v (List.mem_cons_of_mem _ (List.mem_cons_of_mem _ (List.mem_cons_of_mem _ hv)))) hls hla hc hs eR eT
theorem X_last {a n : Nat} {i : Int32} {x : Int64} (hd : decode M.2.1 pc = .ok (.lastore, 1)) (ho : mS h a = (101, n)) (hz : nZ ≤ a) (hi : vp_in i n) (kk : X M lv K T rc rs (pc + 1) ls st (uL h a i.toNatClampNeg x)) : X M lv K T rc rs pc ls (.long x :: .int i :: .ref a :: st) h := by
  intro p l e R s m args below meth cc D tc A n0 ad0 h0 Q ad H locs cells slots la C hR hE hst hls hla hc hs eR eT
  obtain ⟨hx, hb, hml, hret, hts, hown, hlk, htab, hns, hini, hfr, hlo⟩ := id C
  obtain ⟨r1, r2, r3, r4, r5, r6, r7⟩ := id hR
  have hne := r7.ne0 ho (by decide)
  have hlt := r7.lt ho (by decide)
  rw [List.map_cons, List.map_cons, List.map_cons, cv_ref hne]
  have he := dyn_get (tc := tc) (ad := ad) hz hlt
  rw [ce_arr (t := 1) ho] at he
  refine va_last hx hb r1 r2 r3 r4 (a - nZ) 1 he rfl hi hd (fun H1 locs1 hP hD hS1 => ?_)
  have hR1 : Rel D tc A ad (uL h a i.toNatClampNeg x) s H1 locs1 := hR.put hP hD hS1 (by
    rw [ce_arr (t := 1) (h := uL h a i.toNatClampNeg x) (a := a) (n := n) ho]
    unfold ar_
    simp only [if_true]
    refine congrArg (fun f => (Sum.inl (tc 1, n, Sum.inr (Sum.inl f)) : va_E)) (funext fun z => ?_)
    simp only [vp_updL, mL_uL, true_and]) rfl hz hlt (fun b hb => ce_uL hb) (r7.uL a _ _) (sameS.uL hz _ _)
  exact kk p l e R s m args below meth cc D tc A n0 ad0 h0 Q ad H1 locs1 cells slots la C hR1 (hE.put rfl (sameS.uL hz _ _)) (fun v hv => hst v (List.mem_cons_of_mem _ (List.mem_cons_of_mem _ (List.mem_cons_of_mem _ hv)))) hls hla hc hs eR eT
theorem X_dast {a n : Nat} {i : Int32} {x : UInt64} (hd : decode M.2.1 pc = .ok (.dastore, 1)) (ho : mS h a = (102, n)) (hz : nZ ≤ a) (hi : vp_in i n) (kk : X M lv K T rc rs (pc + 1) ls st (uL h a i.toNatClampNeg x.toInt64)) : X M lv K T rc rs pc ls (.double x :: .int i :: .ref a :: st) h := by
  intro p l e R s m args below meth cc D tc A n0 ad0 h0 Q ad H locs cells slots la C hR hE hst hls hla hc hs eR eT
  obtain ⟨hx, hb, hml, hret, hts, hown, hlk, htab, hns, hini, hfr, hlo⟩ := id C
  obtain ⟨r1, r2, r3, r4, r5, r6, r7⟩ := id hR
  have hne := r7.ne0 ho (by decide)
  have hlt := r7.lt ho (by decide)
  rw [List.map_cons, List.map_cons, List.map_cons, cv_ref hne]
  have he := dyn_get (tc := tc) (ad := ad) hz hlt
  rw [ce_arr (t := 2) ho] at he
  refine va_dast hx hb r1 r2 r3 r4 (a - nZ) 2 he rfl hi hd (fun H1 locs1 hP hD hS1 => ?_)
  have hR1 : Rel D tc A ad (uL h a i.toNatClampNeg x.toInt64) s H1 locs1 := hR.put hP hD hS1 (by
    rw [ce_arr (t := 2) (h := uL h a i.toNatClampNeg x.toInt64) (a := a) (n := n) ho]
    unfold ar_
    simp only [show ¬ (2 : Nat) = 1 by decide, if_false, if_true]
    refine congrArg (fun f => (Sum.inl (tc 2, n, Sum.inr (Sum.inr (Sum.inr (Sum.inl f)))) : va_E)) (funext fun z => ?_)
    simp only [vf_upd, mL_uL, true_and]
    split
    · rfl
    · rfl) rfl hz hlt (fun b hb => ce_uL hb) (r7.uL a _ _) (sameS.uL hz _ _)
  exact kk p l e R s m args below meth cc D tc A n0 ad0 h0 Q ad H1 locs1 cells slots la C hR1 (hE.put rfl (sameS.uL hz _ _)) (fun v hv => hst v (List.mem_cons_of_mem _ (List.mem_cons_of_mem _ (List.mem_cons_of_mem _ hv)))) hls hla hc hs eR eT
theorem X_aastS {a n b : Nat} {i : Int32} (hd : decode M.2.1 pc = .ok (.aastore, 1)) (ho : mS h a = (105, n)) (hob : mS h b = (6, 0)) (hz : nZ ≤ a) (hi : vp_in i n) (kk : X M lv K T rc rs (pc + 1) ls st (uR h a i.toNatClampNeg b)) : X M lv K T rc rs pc ls (.ref b :: .int i :: .ref a :: st) h := by
  intro p l e R s m args below meth cc D tc A n0 ad0 h0 Q ad H locs cells slots la C hR hE hst hls hla hc hs eR eT
  obtain ⟨hx, hb, hml, hret, hts, hown, hlk, htab, hns, hini, hfr, hlo⟩ := id C
  obtain ⟨r1, r2, r3, r4, r5, r6, r7⟩ := id hR
  have hne := r7.ne0 ho (by decide)
  have hlt := r7.lt ho (by decide)
  obtain ⟨hzb, hltb⟩ := r7.dynz hob (by decide) (by decide)
  rw [List.map_cons, List.map_cons, List.map_cons, cv_ref hne, cv_ref (nz_ne hzb)]
  have he := dyn_get (tc := tc) (ad := ad) hz hlt
  rw [ce_arr (t := 5) ho] at he
  have heb := dyn_get (tc := tc) (ad := ad) hzb hltb
  rw [ce_obj (ci := 5) hob (by decide)] at heb
  refine va_astq hx hb r1 r2 r3 r4 (a - nZ) 5 (b - nZ) 5 he rfl heb rfl hi hd (fun H1 locs1 hP hD hS1 => ?_)
  have hR1 : Rel D tc A ad (uR h a i.toNatClampNeg b) s H1 locs1 := hR.put hP hD hS1 (by
    rw [ce_arr (t := 5) (h := uR h a i.toNatClampNeg b) (a := a) (n := n) ho]
    unfold ar_
    simp only [show ¬ (5 : Nat) = 1 by decide, show ¬ (5 : Nat) = 2 by decide, show 5 ≤ (5 : Nat) by decide, if_false, if_true]
    refine congrArg (fun f => (Sum.inl (tc 5, n, Sum.inr (Sum.inr (Sum.inr (Sum.inr f)))) : va_E)) (funext fun z => ?_)
    simp only [va_up, mR_uR, true_and]
    split
    · unfold rf
      rw [if_neg (nz_ne hzb)]
    · rfl) rfl hz hlt (fun b hb => ce_uR hb) (r7.uR a _ hltb) (sameS.uR hz _ _)
  exact kk p l e R s m args below meth cc D tc A n0 ad0 h0 Q ad H1 locs1 cells slots la C hR1 (hE.put rfl (sameS.uR hz _ _)) (fun v hv => hst v (List.mem_cons_of_mem _ (List.mem_cons_of_mem _ (List.mem_cons_of_mem _ hv)))) hls hla hc hs eR eT
theorem X_aastT {a n b : Nat} {i : Int32} (hd : decode M.2.1 pc = .ok (.aastore, 1)) (ho : mS h a = (106, n)) (hob : mS h b = (7, 0)) (hz : nZ ≤ a) (hi : vp_in i n) (kk : X M lv K T rc rs (pc + 1) ls st (uR h a i.toNatClampNeg b)) : X M lv K T rc rs pc ls (.ref b :: .int i :: .ref a :: st) h := by
  intro p l e R s m args below meth cc D tc A n0 ad0 h0 Q ad H locs cells slots la C hR hE hst hls hla hc hs eR eT
  obtain ⟨hx, hb, hml, hret, hts, hown, hlk, htab, hns, hini, hfr, hlo⟩ := id C
  obtain ⟨r1, r2, r3, r4, r5, r6, r7⟩ := id hR
  have hne := r7.ne0 ho (by decide)
  have hlt := r7.lt ho (by decide)
  obtain ⟨hzb, hltb⟩ := r7.dynz hob (by decide) (by decide)
  rw [List.map_cons, List.map_cons, List.map_cons, cv_ref hne, cv_ref (nz_ne hzb)]
  have he := dyn_get (tc := tc) (ad := ad) hz hlt
  rw [ce_arr (t := 6) ho] at he
  have heb := dyn_get (tc := tc) (ad := ad) hzb hltb
  rw [ce_obj (ci := 6) hob (by decide)] at heb
  refine va_astq hx hb r1 r2 r3 r4 (a - nZ) 6 (b - nZ) 6 he rfl heb rfl hi hd (fun H1 locs1 hP hD hS1 => ?_)
  have hR1 : Rel D tc A ad (uR h a i.toNatClampNeg b) s H1 locs1 := hR.put hP hD hS1 (by
    rw [ce_arr (t := 6) (h := uR h a i.toNatClampNeg b) (a := a) (n := n) ho]
    unfold ar_
    simp only [show ¬ (6 : Nat) = 1 by decide, show ¬ (6 : Nat) = 2 by decide, show 5 ≤ (6 : Nat) by decide, if_false, if_true]
    refine congrArg (fun f => (Sum.inl (tc 6, n, Sum.inr (Sum.inr (Sum.inr (Sum.inr f)))) : va_E)) (funext fun z => ?_)
    simp only [va_up, mR_uR, true_and]
    split
    · unfold rf
      rw [if_neg (nz_ne hzb)]
    · rfl) rfl hz hlt (fun b hb => ce_uR hb) (r7.uR a _ hltb) (sameS.uR hz _ _)
  exact kk p l e R s m args below meth cc D tc A n0 ad0 h0 Q ad H1 locs1 cells slots la C hR1 (hE.put rfl (sameS.uR hz _ _)) (fun v hv => hst v (List.mem_cons_of_mem _ (List.mem_cons_of_mem _ (List.mem_cons_of_mem _ hv)))) hls hla hc hs eR eT
theorem X_aastC {a n b : Nat} {i : Int32} (hd : decode M.2.1 pc = .ok (.aastore, 1)) (ho : mS h a = (107, n)) (hob : mS h b = (21, 0)) (hzb : b < nZ) (hz : nZ ≤ a) (hi : vp_in i n) (kk : X M lv K T rc rs (pc + 1) ls st (uR h a i.toNatClampNeg b)) : X M lv K T rc rs pc ls (.ref b :: .int i :: .ref a :: st) h := by
  intro p l e R s m args below meth cc D tc A n0 ad0 h0 Q ad H locs cells slots la C hR hE hst hls hla hc hs eR eT
  obtain ⟨hx, hb, hml, hret, hts, hown, hlk, htab, hns, hini, hfr, hlo⟩ := id C
  obtain ⟨r1, r2, r3, r4, r5, r6, r7⟩ := id hR
  have hne := r7.ne0 ho (by decide)
  have hlt := r7.lt ho (by decide)
  have hneb := r7.ne0 hob (by decide)
  rw [List.map_cons, List.map_cons, List.map_cons, cv_ref hne, cv_ref hneb]
  have he := dyn_get (tc := tc) (ad := ad) hz hlt
  rw [ce_arr (t := 7) ho] at he
  obtain ⟨cellV, g1, g2, g3, -⟩ := ((r5.1 b hzb).1 (by rw [hob]; exact Or.inr rfl)).1.kept r4.2.1
  rw [hob] at g3
  have g4 : s.vm.findClass RX1 = some cellV.cls := g3
  obtain ⟨kC, hkC, -⟩ := Vm.findClass_spec g4
  have hany : va_Any RX1 s H (ad b) := ⟨cellV, g1, g2, ⟨kC, hkC⟩, fun comp h => by
    rw [g4] at h
    cases h
    exact va_asg _ _⟩
  have key : ∀ (H1 : Heap) (locs1 : List Loc), va_P D CL ((dyn tc ad h).set (a - nZ) (ad a, .inl (tc 7, n, .inr (.inr (.inr (.inr (va_up (fun i => rf ad (mR h a i)) i.toNatClampNeg (some (ad b))))))))) H1 → va_D A ((dyn tc ad h).set (a - nZ) (ad a, .inl (tc 7, n, .inr (.inr (.inr (.inr (va_up (fun i => rf ad (mR h a i)) i.toNatClampNeg (some (ad b))))))))) → va_S A s.heap H1 locs1 → W p l e R s m args below meth cc H1 locs1 cells slots Q (F0 m (pc + 1) la (st.map (cv ad))) := by
    intro H1 locs1 hP hD hS1
    have hR1 : Rel D tc A ad (uR h a i.toNatClampNeg b) s H1 locs1 := hR.put hP hD hS1 (by
      rw [ce_arr (t := 7) (h := uR h a i.toNatClampNeg b) (a := a) (n := n) ho]
      unfold ar_
      simp only [show ¬ (7 : Nat) = 1 by decide, show ¬ (7 : Nat) = 2 by decide, show 5 ≤ (7 : Nat) by decide, if_false, if_true]
      refine congrArg (fun f => (Sum.inl (tc 7, n, Sum.inr (Sum.inr (Sum.inr (Sum.inr f)))) : va_E)) (funext fun z => ?_)
      simp only [va_up, mR_uR, true_and]
      split
      · unfold rf
        rw [if_neg hneb]
      · rfl) rfl hz hlt (fun b hb => ce_uR hb) (r7.uR a _ (Nat.lt_of_lt_of_le hzb r7.1)) (sameS.uR hz _ _)
    exact kk p l e R s m args below meth cc D tc A n0 ad0 h0 Q ad H1 locs1 cells slots la C hR1 (hE.put rfl (sameS.uR hz _ _)) (fun v hv => hst v (List.mem_cons_of_mem _ (List.mem_cons_of_mem _ (List.mem_cons_of_mem _ hv)))) hls hla hc hs eR eT
  exact va_astqM hx hb r1 r2 r3 r4 (a - nZ) 7 he rfl hany hi hd key
end AR
end
section
/-! CALLS -/
theorem Rel.calling {D : va_G} {tc : Nat → ClassId} {A : Nat → Prop} {ad : Nat → Nat} {h : AH} {U : State} {H : Heap} {locs : List Loc} (hR : Rel D tc A ad h U H locs) (g : JFrame) (mk : MethodId) (a : Array Value) : Rel D tc A ad h (U.calling g mk a) H locs := by
  obtain ⟨r1, r2, r3, r4, r5, r6, r7⟩ := hR
  refine ⟨va_K.moved (u := U) (U := U.calling g mk a) (Vm.Alike.refl U.vm) r1, r2, r3, r4, ?_, r6, r7⟩
  exact r5.go (U := U.calling g mk a) (State.WarmedH.refl U) (fun _ _ _ => rfl) (fun _ h => h)
theorem pcn_blind (D : va_G) (tc : Nat → ClassId) (ad : Nat → Nat) (h : AH) (sz : Nat) (as : List Value) : FrameBlind (Pcn D tc ad h sz as) := fun a U g mk q => by
  obtain ⟨q0, q1, q2, q3⟩ := q
  exact ⟨q0, q1, q2.calling g mk a, q3⟩
theorem Rel.enter {D : va_G} {tc : Nat → ClassId} {A : Nat → Prop} {ad : Nat → Nat} {h : AH} {s U : State} {H : Heap} {locs : List Loc} (hR : Rel D tc A ad h s H locs) (hU : U.heap = H) (hW : s.WarmedH U.vm) : Rel D tc (Af ad h H.size) ad h U U.heap [] := by
  obtain ⟨r1, r2, r3, r4, r5, r6, r7⟩ := hR
  have hAf : ∀ q, Af ad h H.size q → A q := fun q hq => by
    rcases hq with hq | ⟨k, k1, k2, rfl⟩
    · exact r6 q (Nat.le_trans r4.1 hq)
    · exact r3.2 (k - nZ) _ (dyn_get k1 k2)
  refine ⟨va_K.moved hW.alike r1, by rw [hU]; exact r2, ⟨r3.1, fun k q hk => ?_⟩, va_S.rf, ?_, fun q hq => Or.inl (by rw [← hU]; exact hq), r7⟩
  · obtain ⟨h1, rfl⟩ := dyn_at hk
    exact Or.inr ⟨nZ + k, Nat.le_add_right _ _, h1, rfl⟩
  · exact r5.go hW (fun a h1 h2 => by rw [hU]; exact r4.2.1 a h1 h2) hAf
theorem Rel.af {D : va_G} {tc : Nat → ClassId} {A : Nat → Prop} {ad : Nat → Nat} {h : AH} {s : State} {H : Heap} {locs : List Loc} (hR : Rel D tc A ad h s H locs) : ∀ q, Af ad h H.size q → A q := fun q hq => by
  obtain ⟨r1, r2, r3, r4, r5, r6, r7⟩ := hR
  rcases hq with hq | ⟨k, k1, k2, rfl⟩
  · exact r6 q (Nat.le_trans r4.1 hq)
  · exact r3.2 (k - nZ) _ (dyn_get k1 k2)
theorem Rel.leave {D : va_G} {tc : Nat → ClassId} {A : Nat → Prop} {ad ad' : Nat → Nat} {h h' : AH} {s t : State} {H H1 : Heap} {locs locs1 : List Loc} (hR : Rel D tc A ad h s H locs) (hw : Wt D tc (Af ad h H.size) (mN h) ad h ad' h' t) (ht : H1 = t.heap) (hS : va_S A s.heap H1 locs1) : Rel D tc A ad' h' s H1 locs1 := by
  have haf := hR.af
  obtain ⟨r1, r2, r3, r4, r5, r6, r7⟩ := hR
  obtain ⟨w1, w2, w3, w4⟩ := hw
  exact ⟨r1, by rw [ht]; exact w1, w2.weaken (fun k q _ h => haf q.1 h), hS, r5.re r7 w4.2.1 w4.2.2, r6, w3⟩
theorem Ext.leave {n0 : Nat} {ad0 ad ad' : Nat → Nat} {h0 h h' : AH} (hE : Ext n0 ad0 h0 ad h) (hE2 : Ext (mN h) ad h ad' h') : Ext n0 ad0 h0 ad' h' := ⟨Nat.le_trans hE.1 hE2.1, fun k hk => (hE2.2.1 k (Nat.lt_of_lt_of_le hk hE.1)).trans (hE.2.1 k hk), hE.2.2.tr hE2.2.2⟩
theorem cvl_eq {ad ad' : Nat → Nat} {h : AH} {ls : List (Nat × Value)} (hd : ∀ k, k < mN h → ad' k = ad k) (hls : ∀ q ∈ ls, vok h q.2) : cvl ad' ls = cvl ad ls := List.map_congr_left (fun q hq => by rw [cv_eq hd (hls q hq)])
theorem cvs_eq {ad ad' : Nat → Nat} {h : AH} {st : List Value} (hd : ∀ k, k < mN h → ad' k = ad k) (hst : ∀ v ∈ st, vok h v) : st.map (cv ad') = st.map (cv ad) := List.map_congr_left (fun v hv => cv_eq hd (hst v hv))
section CA
variable {M : Mt} {lv : Nat} {K : Option Value → AH → Prop} {T : String → AH → Prop} {rc rs pc : Nat} {ls : List (Nat × Value)} {st : List Value} {h : AH}
theorem X_after {mc ms : Nat} {K' : Option Value → AH → Prop} {T' : String → AH → Prop} {as : Array Value} (hmc : mc ≤ rc) (hms : ms ≤ rs)
    (kr : ∀ v h', K' v h' → X M lv K T (rc - mc) (rs - ms) (pc + 3) ls (v.toList ++ st) h') (kt : ∀ E h', T' E h' → XT M lv K T (rc - mc) (rs - ms) E pc ls h')
    {p : Program} {l : Launch} {e : Env} {R : Room} {s : State} {m : MethodId} {args : Array Value} {below : List Frame} {meth : Method} {c : Code} {D : va_G} {tc : Nat → ClassId} {A : Nat → Prop} {n0 : Nat} {ad0 : Nat → Nat} {h0 : AH} {Q : State → Prop} {ad : Nat → Nat} {H : Heap} {locs : List Loc} {cells slots : Nat} {la : Array Slot} {stk : List Value}
    (C : Cx M lv p l R s m args meth c) (hR : Rel D tc A ad h s H locs) (hE : Ext n0 ad0 h0 ad h) (hst : ∀ v ∈ st, vok h v) (hls : ∀ q ∈ ls, vok h q.2) (hla : lv_has la M.2.2.1 (cvl ad ls)) (hc : cells + rc ≤ R.cells) (hs : slots + rs ≤ R.slots)
    (eR : EndR M K p l e R s m args below meth c D tc A n0 ad0 h0 Q) (eT : EndT T p l e R s m args below meth c D tc A n0 ad0 h0 Q)
    (hrun : vx_Run p l e R s m args below meth c H locs cells slots mc ms (F0 m pc la stk) (st.map (cv ad)) (Qr D tc ad h H.size K' as) (Qx D tc ad h H.size T') (Af ad h H.size)) : W p l e R s m args below meth c H locs cells slots Q (F0 m pc la stk) := by
  have haf := hR.af
  have hr4 := hR.2.2.2.1
  intro T9 hT X9
  rcases hrun T9 hT X9 with ⟨v, st₀, t, T', L, g0, X', hL, e1, e2, ⟨⟨v', h', ad', hv, hK', hok, hw⟩, hF⟩, stp⟩ | ⟨q, st₀, t, T', L, E, ce, g0, X', hL, e1, e2, ⟨⟨h', ad', hT', hw⟩, hF⟩, hce, hcv, hcl, stp⟩
  · obtain ⟨k1, k2, k3⟩ := vx_keep g0 e1 hr4 (fun q _ z => haf q z) haf hL hF
    cases hv
    have hR1 := hR.leave hw e1 k3
    have hE2 := hw.2.2.2
    have hk := kr v' h' hK' p l e R s m args below meth c D tc A n0 ad0 h0 Q ad' T'.heap (locs ++ L) (cells + mc) (slots + ms) la C hR1 (hE.leave hE2) (fun x hx => by
      rcases List.mem_append.mp hx with hx | hx
      · exact hok x hx
      · exact vok_n hE2.1 (hst x hx)) (fun q hq => vok_n hE2.1 (hls q hq)) (by rw [cvl_eq hE2.2.1 hls]; exact hla) (by omega) (by omega) eR eT
    rw [List.map_append, cvs_eq hE2.2.1 hst] at hk
    obtain ⟨t2, a1, b1⟩ := hk T' rfl X'
    refine ⟨t2, stp t2 ?_, b1⟩
    have e9 : (v'.map (cv ad')).toList = v'.toList.map (cv ad') := by cases v' <;> rfl
    rw [e9]
    exact a1
  · obtain ⟨k1, k2, k3⟩ := vx_keep g0 e1 hr4 (fun q _ z => haf q z) haf hL hF
    have hR1 := hR.leave hw e1 k3
    have hE2 := hw.2.2.2
    have hk := kt E h' hT' p l e R s m args below meth c D tc A n0 ad0 h0 Q ad' T'.heap (locs ++ L) (cells + mc) (slots + ms) la q ce (st.map (cv ad)) C hR1 (hE.leave hE2) (fun q hq => vok_n hE2.1 (hls q hq)) (by rw [cvl_eq hE2.2.1 hls]; exact hla) (by omega) (by omega) (by rw [e1]; exact hce) hcv hcl eR eT
    obtain ⟨t2, a1, b1⟩ := hk T' rfl X'
    exact ⟨t2, stp.trans a1, b1⟩
def MD (M' : Mt) (n : Nat) : Prop := Cond.initialized M'.1.cls ∈ gw ∧ (M'.1.cls ≠ "java/lang/invoke/MethodHandle" ∧ M'.1.cls ≠ "java/lang/invoke/VarHandle") ∧ (parseMethodDescriptor M'.1.desc).map (fun d => d.parameters.length) = some n ∧ M'.2.2.1 ≤ 21
abbrev cwd (M' : Mt) : Cond := .code M'.1 M'.2.1 M'.2.2.1 M'.2.2.2.1
abbrev cwh (M' : Mt) : Cond := .codeWith M'.1 M'.2.1 M'.2.2.1 M'.2.2.2.1 M'.2.2.2.2
theorem pay_gw {args : Array Value} {s : State} {cw : Cond} (hcw : cw ∈ gw) (hts : ∀ w ∈ gw, w.before args s = true) : ∀ w ∈ cw :: gw, ∀ (a' : Array Value) (U : State), s.WarmedH U.vm → w.before a' U = true := fun w hw a' U hW => by
  have hw : w ∈ gw := by
    rcases List.mem_cons.mp hw with rfl | hw
    · exact hcw
    · exact hw
  exact word_at hW (gw_good hw) (hts w hw)
theorem callB_gw {R : Room} {s : State} {args : Array Value} {own : String} {idx n lv' mc ms : Nat} {M' : Mt} (hts : ∀ w ∈ gw, w.before args s = true) (hcw : cwd M' ∈ gw) (hd : MD M' n) (hl : Cond.methodLink own idx M'.1 ∈ gw) (hfr : lv' + 1 ≤ R.frames) (hlo : 40 * (lv' + 1) ≤ R.locals) :
    CallB R s args own idx M'.1 M'.2.1 M'.2.2.1 M'.2.2.2.1 (cwd M' :: gw) ({ frames := lv', cells := mc, slots := ms, locals := 40 * lv' } : Room) mc ms n := by
  obtain ⟨d1, d2, d3, d4⟩ := hd
  refine ⟨rfl, rfl, hfr, by show 8 + (M'.2.2.1 + 11) + 40 * lv' ≤ R.locals; omega, pay_gw hcw hts, List.mem_cons_self, hts _ hcw, hts _ d1, d2, fun sig h => ?_, hts _ hl⟩
  rw [h] at d3
  exact (Option.some.inj d3).symm
/-- the class by which a receiver is known -/
def rcv (h : AH) (b : Nat) (C : String) : Prop := (∃ ci TT N, mS h b = (ci + 1, 0) ∧ ci < 9 ∧ CL[ci]? = some (C, TT, N)) ∨ (b < nZ ∧ ((mS h b = (20, 0) ∧ C = RJ0) ∨ (mS h b = (21, 0) ∧ C = RX1)))
theorem rcv_cell {D : va_G} {tc : Nat → ClassId} {A : Nat → Prop} {ad : Nat → Nat} {s : State} {H : Heap} {locs : List Loc} {b : Nat} {C : String} (hR : Rel D tc A ad h s H locs) (hr : rcv h b C) : b ≠ 0 ∧ ∃ cellB : Cell, H[ad b]? = some cellB ∧ cellB.vm.isStatics = false ∧ s.vm.findClass C = some cellB.cls := by
  obtain ⟨r1, r2, r3, r4, r5, r6, r7⟩ := hR
  rcases hr with ⟨ci, TT, N, ho, hc, hC⟩ | ⟨hz, hr⟩
  · obtain ⟨hz, ha⟩ := r7.dynz ho (by omega) (by omega)
    have he := dyn_get (tc := tc) (ad := ad) hz ha
    rw [ce_obj ho hc] at he
    exact ⟨nz_ne hz, va_recv r1 r2 hC he⟩
  · rcases hr with ⟨ho, rfl⟩ | ⟨ho, rfl⟩
    · obtain ⟨cellV, g1, g2, g3, -⟩ := ((r5.1 b hz).1 (by rw [ho]; exact Or.inl rfl)).1.kept r4.2.1
      rw [ho] at g3
      exact ⟨r7.ne0 ho (by decide), cellV, g1, g2, g3⟩
    · obtain ⟨cellV, g1, g2, g3, -⟩ := ((r5.1 b hz).1 (by rw [ho]; exact Or.inr rfl)).1.kept r4.2.1
      rw [ho] at g3
      exact ⟨r7.ne0 ho (by decide), cellV, g1, g2, g3⟩
def MV (own : String) (idx : Nat) (M' : Mt) (n : Nat) (C : String) : Prop := MD M' n ∧ Cond.methodLink own idx M'.1 ∈ gw ∧ Cond.instanceMethod M'.1 ∈ gw ∧ Cond.selects C M'.1 M'.1 ∈ gw ∧ cwd M' ∈ gw
theorem X_callV {M' : Mt} {idx n lv' mc ms b : Nat} {C : String} {as stk : List Value} {K' : Option Value → AH → Prop} {T' : String → AH → Prop} (hm : MV M.1.cls idx M' n C) (hd : decode M.2.1 pc = .ok (.invokevirtual idx, 3)) (hlv : lv' + 1 ≤ lv) (hmc : mc ≤ rc) (hms : ms ≤ rs) (hn : as.length = n) (hstk : stk = as.reverse ++ .ref b :: st) (hwt : (st.map fun v => v.category).sum ≤ 8)
    (hr : rcv h b C) (hC : Cn M' (cwd M') lv' mc ms (.ref b :: as) h K' T') (kr : ∀ v h', K' v h' → X M lv K T (rc - mc) (rs - ms) (pc + 3) ls (v.toList ++ st) h') (kt : ∀ E h', T' E h' → XT M lv K T (rc - mc) (rs - ms) E pc ls h') : X M lv K T rc rs pc ls stk h := by
  subst hstk
  intro p l e R s m args below meth cc D tc A n0 ad0 h0 Q ad H locs cells slots la C9 hR hE hst hls hla hc hs eR eT
  obtain ⟨hx, hb, hml, hret, hts, hown, hlk, htab, hns, hini, hfr, hlo⟩ := id C9
  obtain ⟨m1, m2, m3, m4, m5⟩ := hm
  obtain ⟨hne, hcell⟩ := rcv_cell hR hr
  have hB := callB_gw (n := n) (mc := mc) (ms := ms) hts m5 m1 m2 (Nat.le_trans hlv hfr) (by omega)
  have hst9 : ∀ v ∈ st, vok h v := fun v hv => hst v (List.mem_append_right _ (List.mem_cons_of_mem _ hv))
  have hav : ∀ v ∈ (.ref b :: as), vok h v := fun v hv => by
    rcases List.mem_cons.mp hv with rfl | hv
    · exact hst _ (List.mem_append_right _ List.mem_cons_self)
    · exact hst v (List.mem_append_left _ (List.mem_reverse.mpr hv))
  have e9 : ((as.reverse ++ .ref b :: st).map (cv ad)) = (as.map (cv ad)).reverse ++ .ref (ad b) :: st.map (cv ad) := by
    rw [List.map_append, List.map_cons, cv_ref hne, List.map_reverse]
  rw [e9]
  have ea : ((Value.ref b :: as).map (cv ad)) = .ref (ad b) :: as.map (cv ad) := by rw [List.map_cons, cv_ref hne]
  have hrun := vx_runV (e := e) (below := below) (meth := meth) (locs := locs) (cells := cells) (slots := slots) (rest := st.map (cv ad)) (g := F0 m pc la ((as.map (cv ad)).reverse ++ .ref (ad b) :: st.map (cv ad))) ⟨hx, hb, hml, hown, hts⟩ (hC l hns D tc ad H.size) ⟨hB, hts _ m3, hts _ m4⟩ ⟨pcn_blind D tc ad h H.size _, hcell, fun U hU hW => ⟨by rw [ea], by rw [hU], by have := hR.enter hU hW; exact this, hav⟩⟩ rfl ((List.length_map ..).trans hn) hla.1 rfl (by
    show 2 * 0 + _ ≤ 8
    rw [List.map_map]
    have : (st.map ((fun v => v.category) ∘ cv ad)) = st.map (fun v => v.category) := List.map_congr_left (fun v _ => cv_cat ad v)
    rw [this]
    omega) hd ⟨by omega, by omega⟩
  exact X_after hmc hms kr kt C9 hR hE hst9 hls hla hc hs eR eT hrun
def MS (own : String) (idx : Nat) (M' : Mt) (n : Nat) : Prop := MD M' n ∧ Cond.methodLink own idx M'.1 ∈ gw ∧ Cond.static M'.1 ∈ gw ∧ cwd M' ∈ gw
theorem wt_eq (ad : Nat → Nat) {st : List Value} (hwt : (st.map fun v => v.category).sum ≤ 8) : 2 * 0 + ((st.map (cv ad)).map fun v => v.category).sum ≤ 8 := by
  rw [List.map_map]
  have : (st.map ((fun v => v.category) ∘ cv ad)) = st.map (fun v => v.category) := List.map_congr_left (fun v _ => cv_cat ad v)
  rw [this]
  omega
theorem X_callS {M' : Mt} {idx n lv' mc ms : Nat} {as stk : List Value} {K' : Option Value → AH → Prop} {T' : String → AH → Prop} (hm : MS M.1.cls idx M' n) (hd : decode M.2.1 pc = .ok (.invokestatic idx, 3)) (hlv : lv' + 1 ≤ lv) (hmc : mc ≤ rc) (hms : ms ≤ rs) (hn : as.length = n) (hstk : stk = as.reverse ++ st) (hwt : (st.map fun v => v.category).sum ≤ 8)
    (hC : Cn M' (cwd M') lv' mc ms as h K' T') (kr : ∀ v h', K' v h' → X M lv K T (rc - mc) (rs - ms) (pc + 3) ls (v.toList ++ st) h') (kt : ∀ E h', T' E h' → XT M lv K T (rc - mc) (rs - ms) E pc ls h') : X M lv K T rc rs pc ls stk h := by
  subst hstk
  intro p l e R s m args below meth cc D tc A n0 ad0 h0 Q ad H locs cells slots la C9 hR hE hst hls hla hc hs eR eT
  obtain ⟨hx, hb, hml, hret, hts, hown, hlk, htab, hns, hini, hfr, hlo⟩ := id C9
  obtain ⟨m1, m2, m3, m5⟩ := hm
  have hB := callB_gw (n := n) (mc := mc) (ms := ms) hts m5 m1 m2 (Nat.le_trans hlv hfr) (by omega)
  have hst9 : ∀ v ∈ st, vok h v := fun v hv => hst v (List.mem_append_right _ hv)
  have hav : ∀ v ∈ as, vok h v := fun v hv => hst v (List.mem_append_left _ (List.mem_reverse.mpr hv))
  rw [List.map_append, List.map_reverse]
  have hrun := vx_runS (e := e) (below := below) (meth := meth) (locs := locs) (cells := cells) (slots := slots) (rest := st.map (cv ad)) (g := F0 m pc la ((as.map (cv ad)).reverse ++ st.map (cv ad))) ⟨hx, hb, hml, hown, hts⟩ (hC l hns D tc ad H.size) ⟨hB, hts _ m3⟩ ⟨pcn_blind D tc ad h H.size _, fun U hU hW => ⟨rfl, by rw [hU], hR.enter hU hW, hav⟩⟩ rfl ((List.length_map ..).trans hn) hla.1 rfl (wt_eq ad hwt) hd ⟨by omega, by omega⟩
  exact X_after hmc hms kr kt C9 hR hE hst9 hls hla hc hs eR eT hrun
theorem met_of_vx {l : Launch} {y : MethodName} {ws : List Cond} {rm : Room} {Pc : Array Value → State → Prop} {Qc : Array Value → State → Outcome → State → Prop} {XC : String → State → State → Prop} {mc ms : Nat} {free : Addr → Prop} (hM : vx_Met l y ws rm Pc Qc XC mc ms free) (hX : ∀ E st t, ¬ XC E st t) : Met l y ws rm Pc Qc mc ms free := by
  intro p e h1 h2 h3 s m args below h4 h5 h6 h7
  obtain ⟨n, o, g1, g2, g3, g4⟩ := hM p e h1 h2 h3 s m args below h4 h5 h6 h7
  refine ⟨n, o, g1, g2, g3, ?_⟩
  rcases g4 with g4 | ⟨q, -, E, ce, L, g5, -⟩
  · exact g4
  · exact (hX _ _ _ g5).elim
theorem qx_no {D : va_G} {tc : Nat → ClassId} {ad : Nat → Nat} {sz : Nat} : ∀ E st t, ¬ Qx D tc ad h sz (fun _ _ => False) E st t := fun E st t ⟨⟨_, _, z, _⟩, _⟩ => z
theorem cn_gw {R : Room} {s : State} {args : Array Value} {own host : String} {idx n lv' mc ms : Nat} {M' : Mt} (hts : ∀ w ∈ gw, w.before args s = true) (hcw : cwd M' ∈ gw) (hd : MD M' n) (hl : va_Nw (.methodLinkNest own idx M'.1 host) s) (hfr : lv' + 1 ≤ R.frames) (hlo : 40 * (lv' + 1) ≤ R.locals) :
    va_CN R s args own idx M'.1 host M'.2.1 M'.2.2.1 M'.2.2.2.1 (cwd M' :: gw) ({ frames := lv', cells := mc, slots := ms, locals := 40 * lv' } : Room) mc ms n := by
  obtain ⟨d1, d2, d3, d4⟩ := hd
  refine ⟨⟨rfl, rfl, hfr, by show 8 + (M'.2.2.1 + 11) + 40 * lv' ≤ R.locals; omega, pay_gw hcw hts, List.mem_cons_self⟩, hts _ hcw, hts _ d1, d2, fun sig h => ?_, va_Nw.use rfl hl⟩
  rw [h] at d3
  exact (Option.some.inj d3).symm
def MSN (own : String) (idx : Nat) (M' : Mt) (n : Nat) : Prop := MD M' n ∧ (∃ host, (own, idx, M'.1, host) ∈ nml) ∧ Cond.static M'.1 ∈ gw ∧ cwd M' ∈ gw
theorem X_callSN {M' : Mt} {idx n lv' mc ms : Nat} {as stk : List Value} {K' : Option Value → AH → Prop} (hm : MSN M.1.cls idx M' n) (hd : decode M.2.1 pc = .ok (.invokestatic idx, 3)) (hlv : lv' + 1 ≤ lv) (hmc : mc ≤ rc) (hms : ms ≤ rs) (hn : as.length = n) (hstk : stk = as.reverse ++ st) (hwt : (st.map fun v => v.category).sum ≤ 8)
    (hC : Cn M' (cwd M') lv' mc ms as h K' (fun _ _ => False)) (kr : ∀ v h', K' v h' → X M lv K T (rc - mc) (rs - ms) (pc + 3) ls (v.toList ++ st) h') : X M lv K T rc rs pc ls stk h := by
  subst hstk
  intro p l e R s m args below meth cc D tc A n0 ad0 h0 Q ad H locs cells slots la C9 hR hE hst hls hla hc hs eR eT
  obtain ⟨hx, hb, hml, hret, hts, hown, hlk, htab, hns, hini, hfr, hlo⟩ := id C9
  obtain ⟨m1, ⟨host, m2⟩, m3, m5⟩ := hm
  have hB := cn_gw (n := n) (mc := mc) (ms := ms) hts m5 m1 (hR.2.2.2.2.1.2.2.2.2.2.2.2.1 _ m2) (Nat.le_trans hlv hfr) (by omega)
  have hst9 : ∀ v ∈ st, vok h v := fun v hv => hst v (List.mem_append_right _ hv)
  have hav : ∀ v ∈ as, vok h v := fun v hv => hst v (List.mem_append_left _ (List.mem_reverse.mpr hv))
  rw [List.map_append, List.map_reverse]
  have hrun := va_runSN (e := e) (below := below) (meth := meth) (locs := locs) (cells := cells) (slots := slots) (rest := st.map (cv ad)) (g := F0 m pc la ((as.map (cv ad)).reverse ++ st.map (cv ad))) ⟨hx, hb, hml, hown, hts⟩ (met_of_vx (hC l hns D tc ad H.size) qx_no) ⟨hB, hts _ m3, trivial⟩ ⟨pcn_blind D tc ad h H.size _, fun U hU hW => ⟨rfl, by rw [hU], hR.enter hU hW, hav⟩⟩ rfl ((List.length_map ..).trans hn) hla.1 rfl (wt_eq ad hwt) hd ⟨by omega, by omega⟩
  exact X_after (T' := fun _ _ => False) hmc hms kr (fun _ _ z => z.elim) C9 hR hE hst9 hls hla hc hs eR eT (fun T9 hT X9 => Or.inl (hrun T9 hT X9))
def MI (own : String) (idx : Nat) (M' : Mt) (n : Nat) : Prop := MD M' n ∧ M'.1.name = "<init>" ∧ Cond.instanceMethod M'.1 ∈ gw ∧ cwd M' ∈ gw ∧ (Cond.methodLink own idx M'.1 ∈ gw ∨ ∃ host, (own, idx, M'.1, host) ∈ nml) ∧ M'.2.2.2.1 = none
theorem X_callI {M' : Mt} {idx n lv' mc ms b : Nat} {as stk : List Value} {K' : Option Value → AH → Prop} (hm : MI M.1.cls idx M' n) (hd : decode M.2.1 pc = .ok (.invokespecial idx, 3)) (hlv : lv' + 1 ≤ lv) (hmc : mc ≤ rc) (hms : ms ≤ rs) (hn : as.length = n) (hstk : stk = as.reverse ++ .ref b :: st) (hwt : (st.map fun v => v.category).sum ≤ 8)
    (hne : b ≠ 0) (hC : Cn M' (cwd M') lv' mc ms (.ref b :: as) h K' (fun _ _ => False)) (kr : ∀ v h', K' v h' → X M lv K T (rc - mc) (rs - ms) (pc + 3) ls (v.toList ++ st) h') : X M lv K T rc rs pc ls stk h := by
  subst hstk
  intro p l e R s m args below meth cc D tc A n0 ad0 h0 Q ad H locs cells slots la C9 hR hE hst hls hla hc hs eR eT
  obtain ⟨hx, hb, hml, hret, hts, hown, hlk, htab, hns, hini, hfr, hlo⟩ := id C9
  obtain ⟨m1, m2, m3, m5, m6, m7⟩ := hm
  have hst9 : ∀ v ∈ st, vok h v := fun v hv => hst v (List.mem_append_right _ (List.mem_cons_of_mem _ hv))
  have hav : ∀ v ∈ (.ref b :: as), vok h v := fun v hv => by
    rcases List.mem_cons.mp hv with rfl | hv
    · exact hst _ (List.mem_append_right _ List.mem_cons_self)
    · exact hst v (List.mem_append_left _ (List.mem_reverse.mpr hv))
  have e9 : ((as.reverse ++ .ref b :: st).map (cv ad)) = (as.map (cv ad)).reverse ++ .ref (ad b) :: st.map (cv ad) := by
    rw [List.map_append, List.map_cons, cv_ref hne, List.map_reverse]
  rw [e9]
  have ea : ((Value.ref b :: as).map (cv ad)) = .ref (ad b) :: as.map (cv ad) := by rw [List.map_cons, cv_ref hne]
  have hp : PreS s H (Pcn D tc ad h H.size (.ref b :: as)) (.ref (ad b) :: as.map (cv ad)) := ⟨pcn_blind D tc ad h H.size _, fun U hU hW => ⟨by rw [ea], by rw [hU], hR.enter hU hW, hav⟩⟩
  rcases m6 with m6 | ⟨host, m6⟩
  · have hB := callB_gw (n := n) (mc := mc) (ms := ms) hts m5 m1 m6 (Nat.le_trans hlv hfr) (by omega)
    have hM := met_of_vx (hC l hns D tc ad H.size) qx_no
    rw [m7] at hB
    have hrun := va_runI (e := e) (below := below) (meth := meth) (locs := locs) (cells := cells) (slots := slots) (rest := st.map (cv ad)) (g := F0 m pc la ((as.map (cv ad)).reverse ++ .ref (ad b) :: st.map (cv ad))) ⟨hx, hb, hml, hown, hts⟩ hM ⟨hB, m2, hts _ m3⟩ hp rfl ((List.length_map ..).trans hn) hla.1 rfl (wt_eq ad hwt) hd ⟨by omega, by omega⟩
    exact X_after (T' := fun _ _ => False) hmc hms kr (fun _ _ z => z.elim) C9 hR hE hst9 hls hla hc hs eR eT (fun T9 hT X9 => Or.inl (hrun T9 hT X9))
  · have hB := cn_gw (n := n) (mc := mc) (ms := ms) hts m5 m1 (hR.2.2.2.2.1.2.2.2.2.2.2.2.1 _ m6) (Nat.le_trans hlv hfr) (by omega)
    have hM := met_of_vx (hC l hns D tc ad H.size) qx_no
    rw [m7] at hB
    have hrun := va_runIN (e := e) (below := below) (meth := meth) (locs := locs) (cells := cells) (slots := slots) (rest := st.map (cv ad)) (g := F0 m pc la ((as.map (cv ad)).reverse ++ .ref (ad b) :: st.map (cv ad))) ⟨hx, hb, hml, hown, hts⟩ hM ⟨hB, m2, hts _ m3⟩ hp rfl ((List.length_map ..).trans hn) hla.1 rfl (wt_eq ad hwt) hd ⟨by omega, by omega⟩
    exact X_after (T' := fun _ _ => False) hmc hms kr (fun _ _ z => z.elim) C9 hR hE hst9 hls hla hc hs eR eT (fun T9 hT X9 => Or.inl (hrun T9 hT X9))
end CA
end
section
/-! THROWS, CATCHES, NEW CELLS, THE JDK'S -/
theorem wt_of {D : va_G} {tc : Nat → ClassId} {A : Nat → Prop} {ad ad0 : Nat → Nat} {h h0 : AH} {n0 : Nat} {s t : State} {H : Heap} {locs : List Loc} (hR : Rel D tc A ad h s H locs) (hE : Ext n0 ad0 h0 ad h) (hz : H.size ≤ t.heap.size) (hq : ∀ q : Nat, q < H.size → t.heap[q]? = H[q]?) : Wt D tc A n0 ad0 h0 ad h t ∧ va_F A s t := by
  obtain ⟨r1, r2, r3, r4, r5, r6, r7⟩ := hR
  exact ⟨⟨r2.kept (fun k q hk => hq q.1 ((r2 k q hk).lt)), r3, r7, hE⟩, Nat.le_trans r4.1 hz, fun q h1 h2 => (hq q (Nat.lt_of_lt_of_le h1 r4.1)).trans (r4.2.1 q h1 h2)⟩
section MO
variable {M : Mt} {lv : Nat} {K : Option Value → AH → Prop} {T : String → AH → Prop} {rc rs pc : Nat} {ls : List (Nat × Value)} {st : List Value} {h : AH}
theorem XT_out {E : String} (hT : T E h) (hcov : ∀ x ∈ tableOf M.2.2.2.2, covers x pc = false) : XT M lv K T rc rs E pc ls h := by
  intro p l e R s m args below meth c D tc A n0 ad0 h0 Q ad H locs cells slots la q ce st C hR hE hls hla hc hs h3 h4 h5 eR eT
  obtain ⟨hx, hb, hml, hret, hts, hown, hlk, htab, hns, hini, hfr, hlo⟩ := id C
  have h9 := vx_out (m := m) (p := p) (l := l) (e := e) (R := R) (args := args) (below := below) (locs := locs) (cells := cells) (slots := slots) (ls := la) (rest := st) (pc := pc) (Qc := fun _ _ _ _ => False) (XC := fun E st t => (∃ (h : AH) (ad : Nat → Nat), T E h ∧ Wt D tc A n0 ad0 h0 ad h t) ∧ va_F A st t) (mc := R.cells) (ms := R.slots) (free := A) (by rw [htab]; exact hcov) hlk h3 h4 h5 (fun t ht _ => by
    obtain ⟨w1, w2⟩ := wt_of hR hE (t := t) (by rw [ht]; exact Nat.le_refl _) (fun q _ => by rw [ht])
    exact ⟨⟨h, ad, hT, w1⟩, w2⟩) hR.2.2.2.1.2.2 (by omega) (by omega)
  intro T9 hT9 X9
  obtain ⟨t, a1, b1⟩ := h9 T9 hT9 X9
  exact ⟨t, a1, eT t b1⟩
/-- a good word, or one that is kept by a law of its own -/
def okW (w : Cond) : Bool := goodWord w || (match w with
  | .castable a b => decide ((a, b) ∈ cal)
  | .declares y => decide (y ∈ dcl)
  | _ => false)
theorem okW_ot {w : Cond} (h : okW w = true) : vx_ot w = true := by
  unfold okW at h
  rcases (Bool.or_eq_true _ _).mp h with h | h
  · unfold vx_ot
    rw [h, Bool.or_true]
  · split at h
    · rfl
    · rfl
    · cases h
theorem okW_at {ad : Nat → Nat} {h : AH} {A : Nat → Prop} {s : State} {H : Heap} {args : Array Value} (hs : Sf ad h A s H) (hts : ∀ w ∈ gw, w.before args s = true) {w : Cond} (hm : w ∈ lw_tbl) (hk : okW w = true) : w.before args s = true := by
  unfold okW at hk
  rcases (Bool.or_eq_true _ _).mp hk with hk | hk
  · exact hts w (gw_of hm hk)
  · split at hk
    · exact va_Nw.use rfl (hs.2.2.2.2.2.2.2.2.1 _ (of_decide_eq_true hk))
    · exact va_Nw.use rfl (hs.2.2.2.2.2.2.2.2.2.2.2.1 _ (of_decide_eq_true hk))
    · cases hk
def TW (own : String) (ik is ic : Nat) (cls text : String) (names : List String) : Prop := Bundle.fit cls = true ∧ (∀ n ∈ names, Bundle.fit n = true) ∧ Cond.classLink own ik cls ∈ gw ∧ Cond.initialized cls ∈ gw ∧ (own, is, text) ∈ mgl ∧ (∀ w ∈ vx_atS own ic cls names, w ∈ lw_tbl ∧ okW w = true)
theorem gw_ot {w : Cond} (h : w ∈ gw) : vx_ot w = true := by
  have := (List.mem_filter.mp h).2
  unfold vx_ot
  rw [this, Bool.or_true]
theorem X_throwS {ik is ic : Nat} {cls text : String} {names : List String} (hw : TW M.1.cls ik is ic cls text names) (d0 : decode M.2.1 pc = .ok (.new ik, 3)) (d3 : decode M.2.1 (pc + 3) = .ok (.dup, 1)) (d4 : decode M.2.1 (pc + 4) = .ok (.ldc is, 2)) (d6 : decode M.2.1 (pc + 6) = .ok (.invokespecial ic, 3)) (d9 : decode M.2.1 (pc + 9) = .ok (.athrow, 1))
    (hcov : ∀ x ∈ tableOf M.2.2.2.2, covers x (pc + 9) = false) (hlv : names.length + 5 ≤ lv) (hwt : (st.map fun v => v.category).sum ≤ 8) (hc1 : 1 ≤ rc) (hs1 : 6 ≤ rs) (hT : T cls h) : X M lv K T rc rs pc ls st h := by
  intro p l e R s m args below meth c D tc A n0 ad0 h0 Q ad H locs cells slots la C hR hE hst hls hla hc hs eR eT
  obtain ⟨hx, hb, hml, hret, hts, hown, hlk, htab, hns, hini, hfr, hlo⟩ := id C
  obtain ⟨t1, t2, t3, t4, t5, t6⟩ := hw
  obtain ⟨sa, hstr⟩ := hR.2.2.2.2.1.2.2.2.2.2.1 _ t5
  have hw9 := wt_eq ad hwt
  have h9 := vx_throwS (m := m) (p := p) (l := l) (e := e) (R := R) (args := args) (below := below) (locs := locs) (cells := cells) (slots := slots) (ls := la) (rest := st.map (cv ad)) (Qc := fun _ _ _ _ => False) (XC := fun E st t => (∃ (h : AH) (ad : Nat → Nat), T E h ∧ Wt D tc A n0 ad0 h0 ad h t) ∧ va_F A st t) (mc := R.cells) (ms := R.slots) (free := A) (names := names) hx hb hns hown t1 t2 (hts _ t3) (hts _ t4) hstr (fun w hw => okW_at hR.2.2.2.2.1 hts (t6 w hw).1 (t6 w hw).2) (fun w hw => by
    rcases List.mem_cons.mp hw with rfl | hw
    · exact gw_ot t3
    · rcases List.mem_cons.mp hw with rfl | hw
      · exact gw_ot t4
      · exact okW_ot (t6 w hw).2) hR.2.2.2.2.1.2.1 hR.2.2.2.2.1.2.2.1 hR.2.2.2.1 (hla.1.trans hml.symm) d0 d3 d4 d6 d9 (by rw [htab]; exact hcov) (by omega) (by omega) (by omega) (by omega) hlk (fun t _ hz hq => by
    obtain ⟨w1, w2⟩ := wt_of hR hE (t := t) hz hq
    exact ⟨⟨h, ad, hT, w1⟩, w2⟩) hR.2.2.2.1.2.2 (by omega) (by omega)
  intro T9 hT9 X9
  obtain ⟨t, a1, b1⟩ := h9 T9 hT9 X9
  exact ⟨t, a1, eT t b1⟩
theorem XT_catch {E name : String} {i j : Nat} {ls' : List (Nat × Value)} (pre : List (Nat × Nat × Nat × Nat)) (x : Nat × Nat × Nat × Nat) (suf : List (Nat × Nat × Nat × Nat)) (hsp : M.2.2.2.2 = pre ++ x :: suf)
    (hpass : ∀ z ∈ pre, z.2.2.2 ≠ 0 ∧ ∃ nm : String, Cond.classLink M.1.cls z.2.2.2 nm ∈ gw ∧ (E, nm) ∈ ncl) (hcov : covers (⟨x.1, x.2.1, x.2.2.1, x.2.2.2⟩ : ExceptionTableEntry) pc = true) (h0 : x.2.2.2 ≠ 0) (hlink : Cond.classLink M.1.cls x.2.2.2 name ∈ gw) (hcast : (E, name) ∈ cal)
    (hd : (∃ k0 : Fin 4, (k0 : Nat) = i ∧ decode M.2.1 x.2.2.1 = .ok (.astore_n k0, 1) ∧ j = 1) ∨ (decode M.2.1 x.2.2.1 = .ok (.astore i, 2) ∧ j = 2)) (hn : i < M.2.2.1) (hls' : ∀ q ∈ ls', q ∈ ls ∧ q.1 ≠ i ∧ q.1 + 1 ≠ i) (k : X M lv K T rc rs (x.2.2.1 + j) ls' [] h) : XT M lv K T rc rs E pc ls h := by
  intro p l e R s m args below meth c D tc A n0 ad0 hh0 Q ad H locs cells slots la q ce st C hR hE hls hla hc hs h3 h4 h5 eR eT
  obtain ⟨hx, hb, hml, hret, hts, hown, hlk, htab, hns, hini, hfr, hlo⟩ := id C
  have hS := hR.2.2.2.2.1
  have e1 : c.exceptionTable.toList = tableOf pre ++ (⟨x.1, x.2.1, x.2.2.1, x.2.2.2⟩ : ExceptionTableEntry) :: tableOf suf := by
    rw [htab, hsp]
    unfold tableOf
    rw [List.map_append, List.map_cons]
  refine vx_catch hown (tableOf pre) _ (tableOf suf) e1 (fun z hz => ?_) hcov h0 (hts _ hlink) (va_Nw.use rfl (hS.2.2.2.2.2.2.2.2.1 _ hcast)) h3 h4 h5 ?_
  · obtain ⟨y, hy, rfl⟩ := List.mem_map.mp hz
    obtain ⟨p1, nm, p2, p3⟩ := hpass y hy
    exact Or.inr ⟨p1, nm, hts _ p2, hS.2.2.2.2.2.2.2.2.2.2.1 _ p3⟩
  · have key : ∀ la' : Array Slot, lv_has la' M.2.2.1 ((i, .ref q) :: (cvl ad ls).filter (fun q => !(q.1 == i) && !(q.1 + 1 == i && q.2.category == 2))) → lv_has la' M.2.2.1 (cvl ad ls') := by
      intro la' hla'
      refine ⟨hla'.1, hla'.2.1, fun z hz => hla'.2.2 z (List.mem_cons_of_mem _ ?_)⟩
      obtain ⟨y, hy, rfl⟩ := List.mem_map.mp hz
      obtain ⟨y1, y2, y3⟩ := hls' y hy
      refine List.mem_filter.mpr ⟨List.mem_map.mpr ⟨y, y1, rfl⟩, ?_⟩
      have e2 : (y.1 == i) = false := beq_false_of_ne y2
      have e3 : (y.1 + 1 == i) = false := beq_false_of_ne y3
      simp only [e2, e3, Bool.false_and, Bool.not_false, Bool.and_self]
    have kk := fun la' hla' => k p l e R s m args below meth c D tc A n0 ad0 hh0 Q ad H locs cells slots la' C hR hE (fun v hv => absurd hv List.not_mem_nil) (fun q hq => hls q (hls' q hq).1) (key la' hla') hc hs eR eT
    rcases hd with ⟨k0, d1, d2, rfl⟩ | ⟨d2, rfl⟩
    · exact lv_astore_n hx hb d2 d1 hla hn rfl kk
    · exact lv_astore hx hb d2 hla hn rfl kk
theorem X_objInit {idx a : Nat} (hd : decode M.2.1 pc = .ok (.invokespecial idx, 3)) (hl : Cond.methodLink M.1.cls idx Lib.objectInit ∈ gw) (hi : Cond.instanceMethod Lib.objectInit ∈ gw) (hco : Cond.code Lib.objectInit ⟨#[0xb1]⟩ 1 none ∈ gw) (hne : a ≠ 0) (hlv : 1 ≤ lv) (hwt : (st.map fun v => v.category).sum ≤ 8) (k : X M lv K T rc rs (pc + 3) ls st h) : X M lv K T rc rs pc ls (.ref a :: st) h := by
  intro p l e R s m args below meth c D tc A n0 ad0 h0 Q ad H locs cells slots la C hR hE hst hls hla hc hs eR eT
  obtain ⟨hx, hb, hml, hret, hts, hown, hlk, htab, hns, hini, hfr, hlo⟩ := id C
  rw [List.map_cons, cv_ref hne]
  have hw9 := wt_eq ad hwt
  exact W.objInit hx hb hown (hts _ hl) (hts _ hi) (hts _ hco) (g := F0 m pc la (.ref (ad a) :: st.map (cv ad))) rfl (hla.1.trans hml.symm) rfl hd (by omega) (by show 2 * 0 + _ + 12 ≤ _; omega) (k p l e R s m args below meth c D tc A n0 ad0 h0 Q ad H locs cells slots la C hR hE (fun v hv => hst v (List.mem_cons_of_mem _ hv)) hls hla hc hs eR eT)
theorem X_mmax {idx : Nat} {x y : Int32} (hd : decode M.2.1 pc = .ok (.invokestatic idx, 3)) (hl : Cond.methodLink M.1.cls idx Lib.Math.max.name ∈ gw) (hst9 : Cond.static Lib.Math.max.name ∈ gw) (hini9 : Cond.initialized "java/lang/Math" ∈ gw) (hco : Cond.code Lib.Math.max.name Lib.Math.max.code 2 (some .int) ∈ gw) (hlv : 1 ≤ lv) (hwt : (st.map fun v => v.category).sum ≤ 8) (k : X M lv K T rc rs (pc + 3) ls (.int (if x < y then y else x) :: st) h) : X M lv K T rc rs pc ls (.int y :: .int x :: st) h := by
  intro p l e R s m args below meth c D tc A n0 ad0 h0 Q ad H locs cells slots la C hR hE hst hls hla hc hs eR eT
  obtain ⟨hx, hb, hml, hret, hts, hown, hlk, htab, hns, hini, hfr, hlo⟩ := id C
  have hw9 := wt_eq ad hwt
  exact va_mmax hx hb (hml.trans hla.1.symm) hown (hts _ hl) (hts _ hst9) (hts _ hini9) (hts _ hco) (by omega) (by omega) (by omega) (by omega) hd (k p l e R s m args below meth c D tc A n0 ad0 h0 Q ad H locs cells slots la C hR hE (List.forall_mem_cons.mpr ⟨trivial, fun v hv => hst v (List.mem_cons_of_mem _ (List.mem_cons_of_mem _ hv))⟩) hls hla hc hs eR eT)
theorem X_mmin {idx : Nat} {x y : Int32} (hd : decode M.2.1 pc = .ok (.invokestatic idx, 3)) (hl : Cond.methodLink M.1.cls idx Lib.Math.min.name ∈ gw) (hst9 : Cond.static Lib.Math.min.name ∈ gw) (hini9 : Cond.initialized "java/lang/Math" ∈ gw) (hco : Cond.code Lib.Math.min.name Lib.Math.min.code 2 (some .int) ∈ gw) (hlv : 1 ≤ lv) (hwt : (st.map fun v => v.category).sum ≤ 8) (k : X M lv K T rc rs (pc + 3) ls (.int (if y < x then y else x) :: st) h) : X M lv K T rc rs pc ls (.int y :: .int x :: st) h := by
  intro p l e R s m args below meth c D tc A n0 ad0 h0 Q ad H locs cells slots la C hR hE hst hls hla hc hs eR eT
  obtain ⟨hx, hb, hml, hret, hts, hown, hlk, htab, hns, hini, hfr, hlo⟩ := id C
  have hw9 := wt_eq ad hwt
  exact va_mmin hx hb (hml.trans hla.1.symm) hown (hts _ hl) (hts _ hst9) (hts _ hini9) (hts _ hco) (by omega) (by omega) (by omega) (by omega) hd (k p l e R s m args below meth c D tc A n0 ad0 h0 Q ad H locs cells slots la C hR hE (List.forall_mem_cons.mpr ⟨trivial, fun v hv => hst v (List.mem_cons_of_mem _ (List.mem_cons_of_mem _ hv))⟩) hls hla hc hs eR eT)
/-- a whole array of numbers written anew -/
def uA (h : AH) (a : Nat) (f : Nat → Int32) : AH := (h.1, fun b => if b = a then f else h.2.1 b, h.2.2)
theorem mI_uA (h : AH) (a b i : Nat) (f : Nat → Int32) : mI (uA h a f) b i = if b = a then f i else mI h b i := by
  unfold mI uA
  simp only
  split <;> rfl
theorem mS_uA (h : AH) (a : Nat) (f : Nat → Int32) : mS (uA h a f) = mS h := rfl
theorem mR_uA (h : AH) (a : Nat) (f : Nat → Int32) : mR (uA h a f) = mR h := rfl
theorem mL_uA (h : AH) (a : Nat) (f : Nat → Int32) : mL (uA h a f) = mL h := rfl
theorem mN_uA (h : AH) (a : Nat) (f : Nat → Int32) : mN (uA h a f) = mN h := rfl
theorem mI_uAo {h : AH} {a b : Nat} {f : Nat → Int32} (hb : b ≠ a) : mI (uA h a f) b = mI h b := if_neg hb
theorem ce_uA {tc : Nat → ClassId} {ad : Nat → Nat} {h : AH} {a b : Nat} {f : Nat → Int32} (hb : b ≠ a) : ce_ tc ad (uA h a f) b = ce_ tc ad h b := by
  simp only [ce_, fs_, ar_, fv, mS_uA, mR_uA, mL_uA, mI_uAo hb]
theorem sameS.uA {h : AH} {a : Nat} (ha : nZ ≤ a) (f : Nat → Int32) : sameS h (uA h a f) := fun k hk => ⟨rfl, mI_uAo (by omega), rfl, rfl⟩
theorem X_copy {idx t a0 a1 n0 n1 : Nat} {sp dp n : Int32} (hd : decode M.2.1 pc = .ok (.invokestatic idx, 3)) (hl : Cond.methodLink M.1.cls idx arraycopyName ∈ gw) (hn9 : Cond.native arraycopyName ∈ gw) (hst9 : Cond.static arraycopyName ∈ gw) (hini9 : Cond.initialized "java/lang/System" ∈ gw) (hlv : 1 ≤ lv) (hwt : (st.map fun v => v.category).sum ≤ 8)
    (ht : t = 0 ∨ t = 3) (ho0 : mS h a0 = (100 + t, n0)) (ho1 : mS h a1 = (100 + t, n1)) (hz0 : nZ ≤ a0) (hz1 : nZ ≤ a1) (h1 : ¬ sp < 0) (h2 : ¬ dp < 0) (h3 : ¬ n < 0) (h4 : sp.toNatClampNeg + n.toNatClampNeg ≤ n0) (h5 : dp.toNatClampNeg + n.toNatClampNeg ≤ n1) (hfit : ∀ i, i < n.toNatClampNeg → fits (ty_ t) (.int (mI h a0 (sp.toNatClampNeg + i))) = true)
    (k : X M lv K T rc rs (pc + 3) ls st (uA h a1 (va_cpy (mI h a0) (mI h a1) sp.toNatClampNeg dp.toNatClampNeg n.toNatClampNeg))) : X M lv K T rc rs pc ls (.int n :: .int dp :: .ref a1 :: .int sp :: .ref a0 :: st) h := by
  intro p l e R s m args below meth c D tc A n9 ad0 h0 Q ad H locs cells slots la C hR hE hst hls hla hc hs eR eT
  obtain ⟨hx, hb, hml, hret, hts, hown, hlk, htab, hns, hini, hfr, hlo⟩ := id C
  obtain ⟨r1, r2, r3, r4, r5, r6, r7⟩ := id hR
  have hlt0 := r7.lt ho0 (by omega)
  have hlt1 := r7.lt ho1 (by omega)
  have hw9 := wt_eq ad hwt
  rw [List.map_cons, List.map_cons, List.map_cons, List.map_cons, List.map_cons, cv_ref (nz_ne hz0), cv_ref (nz_ne hz1)]
  have he0 := dyn_get (tc := tc) (ad := ad) hz0 hlt0
  rw [ce_arr ho0] at he0
  have he1 := dyn_get (tc := tc) (ad := ad) hz1 hlt1
  rw [ce_arr ho1] at he1
  have ea : ∀ a n, ar_ ad h a t n = (n, .inl (mI h a)) := fun a n => by
    unfold ar_
    rcases ht with rfl | rfl <;> rfl
  rw [ea] at he0 he1
  have ht9 : (tys tc)[t]? = some (tc t, ty_ t) := by rcases ht with rfl | rfl <;> rfl
  refine va_copyi hx hb (hml.trans hla.1.symm) hown (hts _ hl) (hts _ hn9) (hts _ hst9) (hts _ hini9) r1 r2 r3 r4 (a0 - nZ) (a1 - nZ) t t he0 he1 ht9 ht9 (by rcases ht with rfl | rfl <;> rfl) h1 h2 h3 h4 h5 hfit (by omega) (by
    have : nativeFrameWords "java/lang/System" "arraycopy" 5 ≤ 16 := by decide +kernel
    omega) hd (fun H1 locs1 hP hD hS1 => ?_)
  have hR1 : Rel D tc A ad (uA h a1 (va_cpy (mI h a0) (mI h a1) sp.toNatClampNeg dp.toNatClampNeg n.toNatClampNeg)) s H1 locs1 := hR.put hP hD hS1 (by
    rw [ce_arr (h := uA h a1 _) (a := a1) (n := n1) ho1]
    unfold ar_
    have e9 : ∀ f, mI (uA h a1 f) a1 = f := fun f => if_pos rfl
    rw [e9]
    rcases ht with rfl | rfl <;> rfl) rfl hz1 hlt1 (fun b hb => ce_uA hb) r7 (sameS.uA hz1 _)
  exact k p l e R s m args below meth c D tc A n9 ad0 h0 Q ad H1 locs1 cells slots la C hR1 (hE.put rfl (sameS.uA hz1 _)) (fun v hv => hst v (by simp only [List.mem_cons]; exact Or.inr (Or.inr (Or.inr (Or.inr (Or.inr hv)))))) hls hla hc hs eR eT
end MO
end
section
/-! TYPED ENDS; CALLS BY KIND AND ANSWER -/
def KI (K : Int32 → AH → Prop) : Option Value → AH → Prop := fun o h => ∃ x, o = some (.int x) ∧ K x h
def KL (K : Int64 → AH → Prop) : Option Value → AH → Prop := fun o h => ∃ x, o = some (.long x) ∧ K x h
def KF (K : UInt32 → AH → Prop) : Option Value → AH → Prop := fun o h => ∃ x, o = some (.float x) ∧ K x h
def KD (K : UInt64 → AH → Prop) : Option Value → AH → Prop := fun o h => ∃ x, o = some (.double x) ∧ K x h
def KR (K : Nat → AH → Prop) : Option Value → AH → Prop := fun o h => ∃ x, o = some (.ref x) ∧ K x h
def KV (K : AH → Prop) : Option Value → AH → Prop := fun o h => o = none ∧ K h
abbrev T0 : String → AH → Prop := fun _ _ => False
def isO (h : AH) (a ci : Nat) : Prop := mS h a = (ci + 1, 0)
def isA (h : AH) (a t : Nat) : Prop := (mS h a).1 = 100 + t
def ln (h : AH) (a : Nat) : Nat := (mS h a).2
theorem isA_eq {h : AH} {a t : Nat} (x : isA h a t) : mS h a = (100 + t, ln h a) := Prod.ext x rfl
section WR
variable {M : Mt} {lv : Nat} {K : Option Value → AH → Prop} {T : String → AH → Prop} {rc rs pc : Nat} {ls : List (Nat × Value)} {st : List Value} {h : AH}
theorem XT_room {E : String} {rc' rs' : Nat} (h1 : rc' ≤ rc) (h2 : rs' ≤ rs) (k : XT M lv K T rc' rs' E pc ls h) : XT M lv K T rc rs E pc ls h := by
  intro p l e R s m args below meth c D tc A n0 ad0 h0 Q ad H locs cells slots la q ce st C hR hE hls hla hc hs g1 g2 g3 eR eT
  exact k p l e R s m args below meth c D tc A n0 ad0 h0 Q ad H locs cells slots la q ce st C hR hE hls hla (by omega) (by omega) g1 g2 g3 eR eT
theorem X_pick {ls' : List (Nat × Value)} (ks : List Nat) (hl : lv_pick ls ks = ls') (k : X M lv K T rc rs pc ls' st h) : X M lv K T rc rs pc ls st h := X_sub (fun q hq => by
  rw [← hl] at hq
  obtain ⟨i, -, hi⟩ := List.mem_filterMap.mp hq
  exact List.mem_of_getElem? hi) k
theorem rcvD {b ci : Nat} {C : String} {TT : u_T} {N : Nat} (ho : isO h b ci) (hc : ci < 9) (hC : CL[ci]? = some (C, TT, N)) : rcv h b C := Or.inl ⟨ci, TT, N, ho, hc, hC⟩
theorem X_topi {x : Int32} (k : ∀ y, y = x → X M lv K T rc rs pc ls (.int y :: st) h) : X M lv K T rc rs pc ls (.int x :: st) h := k x rfl
theorem X_vI {M' : Mt} {idx n lv' mc ms rc' rs' b : Nat} {C : String} {as stk : List Value} {Kt : Int32 → AH → Prop} {T' : String → AH → Prop} (hm : MV M.1.cls idx M' n C) (hd : decode M.2.1 pc = .ok (.invokevirtual idx, 3)) (hlv : lv' + 1 ≤ lv) (h1 : rc' + mc ≤ rc) (h2 : rs' + ms ≤ rs) (hn : as.length = n) (hstk : stk = as.reverse ++ .ref b :: st) (hwt : (st.map fun v => v.category).sum ≤ 8) (hr : rcv h b C) (hC : Cn M' (cwd M') lv' mc ms (.ref b :: as) h (KI Kt) T') (kt : ∀ E h', T' E h' → XT M lv K T rc' rs' E pc ls h') (kr : ∀ r h', Kt r h' → X M lv K T rc' rs' (pc + 3) ls (.int r :: st) h') : X M lv K T rc rs pc ls stk h :=
  X_callV hm hd hlv (by omega) (by omega) hn hstk hwt hr hC (fun v h' hk => by
    obtain ⟨r, rfl, hk⟩ := hk
    exact X_room (by omega) (by omega) (kr r h' hk)) (fun E h' hk => XT_room (by omega) (by omega) (kt E h' hk))
theorem X_sI {M' : Mt} {idx n lv' mc ms rc' rs' : Nat} {as stk : List Value} {Kt : Int32 → AH → Prop} {T' : String → AH → Prop} (hm : MS M.1.cls idx M' n) (hd : decode M.2.1 pc = .ok (.invokestatic idx, 3)) (hlv : lv' + 1 ≤ lv) (h1 : rc' + mc ≤ rc) (h2 : rs' + ms ≤ rs) (hn : as.length = n) (hstk : stk = as.reverse ++ st) (hwt : (st.map fun v => v.category).sum ≤ 8) (hC : Cn M' (cwd M') lv' mc ms as h (KI Kt) T') (kt : ∀ E h', T' E h' → XT M lv K T rc' rs' E pc ls h') (kr : ∀ r h', Kt r h' → X M lv K T rc' rs' (pc + 3) ls (.int r :: st) h') : X M lv K T rc rs pc ls stk h :=
  X_callS hm hd hlv (by omega) (by omega) hn hstk hwt hC (fun v h' hk => by
    obtain ⟨r, rfl, hk⟩ := hk
    exact X_room (by omega) (by omega) (kr r h' hk)) (fun E h' hk => XT_room (by omega) (by omega) (kt E h' hk))
theorem X_nI {M' : Mt} {idx n lv' mc ms rc' rs' : Nat} {as stk : List Value} {Kt : Int32 → AH → Prop} (hm : MSN M.1.cls idx M' n) (hd : decode M.2.1 pc = .ok (.invokestatic idx, 3)) (hlv : lv' + 1 ≤ lv) (h1 : rc' + mc ≤ rc) (h2 : rs' + ms ≤ rs) (hn : as.length = n) (hstk : stk = as.reverse ++ st) (hwt : (st.map fun v => v.category).sum ≤ 8) (hC : Cn M' (cwd M') lv' mc ms as h (KI Kt) T0) (kr : ∀ r h', Kt r h' → X M lv K T rc' rs' (pc + 3) ls (.int r :: st) h') : X M lv K T rc rs pc ls stk h :=
  X_callSN hm hd hlv (by omega) (by omega) hn hstk hwt hC (fun v h' hk => by
    obtain ⟨r, rfl, hk⟩ := hk
    exact X_room (by omega) (by omega) (kr r h' hk))
theorem X_vL {M' : Mt} {idx n lv' mc ms rc' rs' b : Nat} {C : String} {as stk : List Value} {Kt : Int64 → AH → Prop} {T' : String → AH → Prop} (hm : MV M.1.cls idx M' n C) (hd : decode M.2.1 pc = .ok (.invokevirtual idx, 3)) (hlv : lv' + 1 ≤ lv) (h1 : rc' + mc ≤ rc) (h2 : rs' + ms ≤ rs) (hn : as.length = n) (hstk : stk = as.reverse ++ .ref b :: st) (hwt : (st.map fun v => v.category).sum ≤ 8) (hr : rcv h b C) (hC : Cn M' (cwd M') lv' mc ms (.ref b :: as) h (KL Kt) T') (kt : ∀ E h', T' E h' → XT M lv K T rc' rs' E pc ls h') (kr : ∀ r h', Kt r h' → X M lv K T rc' rs' (pc + 3) ls (.long r :: st) h') : X M lv K T rc rs pc ls stk h :=
  X_callV hm hd hlv (by omega) (by omega) hn hstk hwt hr hC (fun v h' hk => by
    obtain ⟨r, rfl, hk⟩ := hk
    exact X_room (by omega) (by omega) (kr r h' hk)) (fun E h' hk => XT_room (by omega) (by omega) (kt E h' hk))
theorem X_sL {M' : Mt} {idx n lv' mc ms rc' rs' : Nat} {as stk : List Value} {Kt : Int64 → AH → Prop} {T' : String → AH → Prop} (hm : MS M.1.cls idx M' n) (hd : decode M.2.1 pc = .ok (.invokestatic idx, 3)) (hlv : lv' + 1 ≤ lv) (h1 : rc' + mc ≤ rc) (h2 : rs' + ms ≤ rs) (hn : as.length = n) (hstk : stk = as.reverse ++ st) (hwt : (st.map fun v => v.category).sum ≤ 8) (hC : Cn M' (cwd M') lv' mc ms as h (KL Kt) T') (kt : ∀ E h', T' E h' → XT M lv K T rc' rs' E pc ls h') (kr : ∀ r h', Kt r h' → X M lv K T rc' rs' (pc + 3) ls (.long r :: st) h') : X M lv K T rc rs pc ls stk h :=
  X_callS hm hd hlv (by omega) (by omega) hn hstk hwt hC (fun v h' hk => by
    obtain ⟨r, rfl, hk⟩ := hk
    exact X_room (by omega) (by omega) (kr r h' hk)) (fun E h' hk => XT_room (by omega) (by omega) (kt E h' hk))
theorem X_nL {M' : Mt} {idx n lv' mc ms rc' rs' : Nat} {as stk : List Value} {Kt : Int64 → AH → Prop} (hm : MSN M.1.cls idx M' n) (hd : decode M.2.1 pc = .ok (.invokestatic idx, 3)) (hlv : lv' + 1 ≤ lv) (h1 : rc' + mc ≤ rc) (h2 : rs' + ms ≤ rs) (hn : as.length = n) (hstk : stk = as.reverse ++ st) (hwt : (st.map fun v => v.category).sum ≤ 8) (hC : Cn M' (cwd M') lv' mc ms as h (KL Kt) T0) (kr : ∀ r h', Kt r h' → X M lv K T rc' rs' (pc + 3) ls (.long r :: st) h') : X M lv K T rc rs pc ls stk h :=
  X_callSN hm hd hlv (by omega) (by omega) hn hstk hwt hC (fun v h' hk => by
    obtain ⟨r, rfl, hk⟩ := hk
    exact X_room (by omega) (by omega) (kr r h' hk))
theorem X_vF {M' : Mt} {idx n lv' mc ms rc' rs' b : Nat} {C : String} {as stk : List Value} {Kt : UInt32 → AH → Prop} {T' : String → AH → Prop} (hm : MV M.1.cls idx M' n C) (hd : decode M.2.1 pc = .ok (.invokevirtual idx, 3)) (hlv : lv' + 1 ≤ lv) (h1 : rc' + mc ≤ rc) (h2 : rs' + ms ≤ rs) (hn : as.length = n) (hstk : stk = as.reverse ++ .ref b :: st) (hwt : (st.map fun v => v.category).sum ≤ 8) (hr : rcv h b C) (hC : Cn M' (cwd M') lv' mc ms (.ref b :: as) h (KF Kt) T') (kt : ∀ E h', T' E h' → XT M lv K T rc' rs' E pc ls h') (kr : ∀ r h', Kt r h' → X M lv K T rc' rs' (pc + 3) ls (.float r :: st) h') : X M lv K T rc rs pc ls stk h :=
  X_callV hm hd hlv (by omega) (by omega) hn hstk hwt hr hC (fun v h' hk => by
    obtain ⟨r, rfl, hk⟩ := hk
    exact X_room (by omega) (by omega) (kr r h' hk)) (fun E h' hk => XT_room (by omega) (by omega) (kt E h' hk))
theorem X_sF {M' : Mt} {idx n lv' mc ms rc' rs' : Nat} {as stk : List Value} {Kt : UInt32 → AH → Prop} {T' : String → AH → Prop} (hm : MS M.1.cls idx M' n) (hd : decode M.2.1 pc = .ok (.invokestatic idx, 3)) (hlv : lv' + 1 ≤ lv) (h1 : rc' + mc ≤ rc) (h2 : rs' + ms ≤ rs) (hn : as.length = n) (hstk : stk = as.reverse ++ st) (hwt : (st.map fun v => v.category).sum ≤ 8) (hC : Cn M' (cwd M') lv' mc ms as h (KF Kt) T') (kt : ∀ E h', T' E h' → XT M lv K T rc' rs' E pc ls h') (kr : ∀ r h', Kt r h' → X M lv K T rc' rs' (pc + 3) ls (.float r :: st) h') : X M lv K T rc rs pc ls stk h :=
  X_callS hm hd hlv (by omega) (by omega) hn hstk hwt hC (fun v h' hk => by
    obtain ⟨r, rfl, hk⟩ := hk
    exact X_room (by omega) (by omega) (kr r h' hk)) (fun E h' hk => XT_room (by omega) (by omega) (kt E h' hk))
theorem X_nF {M' : Mt} {idx n lv' mc ms rc' rs' : Nat} {as stk : List Value} {Kt : UInt32 → AH → Prop} (hm : MSN M.1.cls idx M' n) (hd : decode M.2.1 pc = .ok (.invokestatic idx, 3)) (hlv : lv' + 1 ≤ lv) (h1 : rc' + mc ≤ rc) (h2 : rs' + ms ≤ rs) (hn : as.length = n) (hstk : stk = as.reverse ++ st) (hwt : (st.map fun v => v.category).sum ≤ 8) (hC : Cn M' (cwd M') lv' mc ms as h (KF Kt) T0) (kr : ∀ r h', Kt r h' → X M lv K T rc' rs' (pc + 3) ls (.float r :: st) h') : X M lv K T rc rs pc ls stk h :=
  X_callSN hm hd hlv (by omega) (by omega) hn hstk hwt hC (fun v h' hk => by
    obtain ⟨r, rfl, hk⟩ := hk
    exact X_room (by omega) (by omega) (kr r h' hk))
theorem X_vD {M' : Mt} {idx n lv' mc ms rc' rs' b : Nat} {C : String} {as stk : List Value} {Kt : UInt64 → AH → Prop} {T' : String → AH → Prop} (hm : MV M.1.cls idx M' n C) (hd : decode M.2.1 pc = .ok (.invokevirtual idx, 3)) (hlv : lv' + 1 ≤ lv) (h1 : rc' + mc ≤ rc) (h2 : rs' + ms ≤ rs) (hn : as.length = n) (hstk : stk = as.reverse ++ .ref b :: st) (hwt : (st.map fun v => v.category).sum ≤ 8) (hr : rcv h b C) (hC : Cn M' (cwd M') lv' mc ms (.ref b :: as) h (KD Kt) T') (kt : ∀ E h', T' E h' → XT M lv K T rc' rs' E pc ls h') (kr : ∀ r h', Kt r h' → X M lv K T rc' rs' (pc + 3) ls (.double r :: st) h') : X M lv K T rc rs pc ls stk h :=
  X_callV hm hd hlv (by omega) (by omega) hn hstk hwt hr hC (fun v h' hk => by
    obtain ⟨r, rfl, hk⟩ := hk
    exact X_room (by omega) (by omega) (kr r h' hk)) (fun E h' hk => XT_room (by omega) (by omega) (kt E h' hk))
theorem X_sD {M' : Mt} {idx n lv' mc ms rc' rs' : Nat} {as stk : List Value} {Kt : UInt64 → AH → Prop} {T' : String → AH → Prop} (hm : MS M.1.cls idx M' n) (hd : decode M.2.1 pc = .ok (.invokestatic idx, 3)) (hlv : lv' + 1 ≤ lv) (h1 : rc' + mc ≤ rc) (h2 : rs' + ms ≤ rs) (hn : as.length = n) (hstk : stk = as.reverse ++ st) (hwt : (st.map fun v => v.category).sum ≤ 8) (hC : Cn M' (cwd M') lv' mc ms as h (KD Kt) T') (kt : ∀ E h', T' E h' → XT M lv K T rc' rs' E pc ls h') (kr : ∀ r h', Kt r h' → X M lv K T rc' rs' (pc + 3) ls (.double r :: st) h') : X M lv K T rc rs pc ls stk h :=
  X_callS hm hd hlv (by omega) (by omega) hn hstk hwt hC (fun v h' hk => by
    obtain ⟨r, rfl, hk⟩ := hk
    exact X_room (by omega) (by omega) (kr r h' hk)) (fun E h' hk => XT_room (by omega) (by omega) (kt E h' hk))
theorem X_nD {M' : Mt} {idx n lv' mc ms rc' rs' : Nat} {as stk : List Value} {Kt : UInt64 → AH → Prop} (hm : MSN M.1.cls idx M' n) (hd : decode M.2.1 pc = .ok (.invokestatic idx, 3)) (hlv : lv' + 1 ≤ lv) (h1 : rc' + mc ≤ rc) (h2 : rs' + ms ≤ rs) (hn : as.length = n) (hstk : stk = as.reverse ++ st) (hwt : (st.map fun v => v.category).sum ≤ 8) (hC : Cn M' (cwd M') lv' mc ms as h (KD Kt) T0) (kr : ∀ r h', Kt r h' → X M lv K T rc' rs' (pc + 3) ls (.double r :: st) h') : X M lv K T rc rs pc ls stk h :=
  X_callSN hm hd hlv (by omega) (by omega) hn hstk hwt hC (fun v h' hk => by
    obtain ⟨r, rfl, hk⟩ := hk
    exact X_room (by omega) (by omega) (kr r h' hk))
theorem X_vR {M' : Mt} {idx n lv' mc ms rc' rs' b : Nat} {C : String} {as stk : List Value} {Kt : Nat → AH → Prop} {T' : String → AH → Prop} (hm : MV M.1.cls idx M' n C) (hd : decode M.2.1 pc = .ok (.invokevirtual idx, 3)) (hlv : lv' + 1 ≤ lv) (h1 : rc' + mc ≤ rc) (h2 : rs' + ms ≤ rs) (hn : as.length = n) (hstk : stk = as.reverse ++ .ref b :: st) (hwt : (st.map fun v => v.category).sum ≤ 8) (hr : rcv h b C) (hC : Cn M' (cwd M') lv' mc ms (.ref b :: as) h (KR Kt) T') (kt : ∀ E h', T' E h' → XT M lv K T rc' rs' E pc ls h') (kr : ∀ r h', Kt r h' → X M lv K T rc' rs' (pc + 3) ls (.ref r :: st) h') : X M lv K T rc rs pc ls stk h :=
  X_callV hm hd hlv (by omega) (by omega) hn hstk hwt hr hC (fun v h' hk => by
    obtain ⟨r, rfl, hk⟩ := hk
    exact X_room (by omega) (by omega) (kr r h' hk)) (fun E h' hk => XT_room (by omega) (by omega) (kt E h' hk))
theorem X_sR {M' : Mt} {idx n lv' mc ms rc' rs' : Nat} {as stk : List Value} {Kt : Nat → AH → Prop} {T' : String → AH → Prop} (hm : MS M.1.cls idx M' n) (hd : decode M.2.1 pc = .ok (.invokestatic idx, 3)) (hlv : lv' + 1 ≤ lv) (h1 : rc' + mc ≤ rc) (h2 : rs' + ms ≤ rs) (hn : as.length = n) (hstk : stk = as.reverse ++ st) (hwt : (st.map fun v => v.category).sum ≤ 8) (hC : Cn M' (cwd M') lv' mc ms as h (KR Kt) T') (kt : ∀ E h', T' E h' → XT M lv K T rc' rs' E pc ls h') (kr : ∀ r h', Kt r h' → X M lv K T rc' rs' (pc + 3) ls (.ref r :: st) h') : X M lv K T rc rs pc ls stk h :=
  X_callS hm hd hlv (by omega) (by omega) hn hstk hwt hC (fun v h' hk => by
    obtain ⟨r, rfl, hk⟩ := hk
    exact X_room (by omega) (by omega) (kr r h' hk)) (fun E h' hk => XT_room (by omega) (by omega) (kt E h' hk))
theorem X_nR {M' : Mt} {idx n lv' mc ms rc' rs' : Nat} {as stk : List Value} {Kt : Nat → AH → Prop} (hm : MSN M.1.cls idx M' n) (hd : decode M.2.1 pc = .ok (.invokestatic idx, 3)) (hlv : lv' + 1 ≤ lv) (h1 : rc' + mc ≤ rc) (h2 : rs' + ms ≤ rs) (hn : as.length = n) (hstk : stk = as.reverse ++ st) (hwt : (st.map fun v => v.category).sum ≤ 8) (hC : Cn M' (cwd M') lv' mc ms as h (KR Kt) T0) (kr : ∀ r h', Kt r h' → X M lv K T rc' rs' (pc + 3) ls (.ref r :: st) h') : X M lv K T rc rs pc ls stk h :=
  X_callSN hm hd hlv (by omega) (by omega) hn hstk hwt hC (fun v h' hk => by
    obtain ⟨r, rfl, hk⟩ := hk
    exact X_room (by omega) (by omega) (kr r h' hk))
theorem X_vV {M' : Mt} {idx n lv' mc ms rc' rs' b : Nat} {C : String} {as stk : List Value} {Kt : AH → Prop} {T' : String → AH → Prop} (hm : MV M.1.cls idx M' n C) (hd : decode M.2.1 pc = .ok (.invokevirtual idx, 3)) (hlv : lv' + 1 ≤ lv) (h1 : rc' + mc ≤ rc) (h2 : rs' + ms ≤ rs) (hn : as.length = n) (hstk : stk = as.reverse ++ .ref b :: st) (hwt : (st.map fun v => v.category).sum ≤ 8) (hr : rcv h b C) (hC : Cn M' (cwd M') lv' mc ms (.ref b :: as) h (KV Kt) T') (kt : ∀ E h', T' E h' → XT M lv K T rc' rs' E pc ls h') (kr : ∀ h', Kt h' → X M lv K T rc' rs' (pc + 3) ls st h') : X M lv K T rc rs pc ls stk h :=
  X_callV hm hd hlv (by omega) (by omega) hn hstk hwt hr hC (fun v h' hk => by
    obtain ⟨rfl, hk⟩ := hk
    exact X_room (by omega) (by omega) (kr h' hk)) (fun E h' hk => XT_room (by omega) (by omega) (kt E h' hk))
theorem X_sV {M' : Mt} {idx n lv' mc ms rc' rs' : Nat} {as stk : List Value} {Kt : AH → Prop} {T' : String → AH → Prop} (hm : MS M.1.cls idx M' n) (hd : decode M.2.1 pc = .ok (.invokestatic idx, 3)) (hlv : lv' + 1 ≤ lv) (h1 : rc' + mc ≤ rc) (h2 : rs' + ms ≤ rs) (hn : as.length = n) (hstk : stk = as.reverse ++ st) (hwt : (st.map fun v => v.category).sum ≤ 8) (hC : Cn M' (cwd M') lv' mc ms as h (KV Kt) T') (kt : ∀ E h', T' E h' → XT M lv K T rc' rs' E pc ls h') (kr : ∀ h', Kt h' → X M lv K T rc' rs' (pc + 3) ls st h') : X M lv K T rc rs pc ls stk h :=
  X_callS hm hd hlv (by omega) (by omega) hn hstk hwt hC (fun v h' hk => by
    obtain ⟨rfl, hk⟩ := hk
    exact X_room (by omega) (by omega) (kr h' hk)) (fun E h' hk => XT_room (by omega) (by omega) (kt E h' hk))
theorem X_nV {M' : Mt} {idx n lv' mc ms rc' rs' : Nat} {as stk : List Value} {Kt : AH → Prop} (hm : MSN M.1.cls idx M' n) (hd : decode M.2.1 pc = .ok (.invokestatic idx, 3)) (hlv : lv' + 1 ≤ lv) (h1 : rc' + mc ≤ rc) (h2 : rs' + ms ≤ rs) (hn : as.length = n) (hstk : stk = as.reverse ++ st) (hwt : (st.map fun v => v.category).sum ≤ 8) (hC : Cn M' (cwd M') lv' mc ms as h (KV Kt) T0) (kr : ∀ h', Kt h' → X M lv K T rc' rs' (pc + 3) ls st h') : X M lv K T rc rs pc ls stk h :=
  X_callSN hm hd hlv (by omega) (by omega) hn hstk hwt hC (fun v h' hk => by
    obtain ⟨rfl, hk⟩ := hk
    exact X_room (by omega) (by omega) (kr h' hk))
theorem X_iV {M' : Mt} {idx n lv' mc ms rc' rs' b : Nat} {as stk : List Value} {Kt : AH → Prop} (hm : MI M.1.cls idx M' n) (hd : decode M.2.1 pc = .ok (.invokespecial idx, 3)) (hlv : lv' + 1 ≤ lv) (h1 : rc' + mc ≤ rc) (h2 : rs' + ms ≤ rs) (hn : as.length = n) (hstk : stk = as.reverse ++ .ref b :: st) (hwt : (st.map fun v => v.category).sum ≤ 8) (hne : b ≠ 0) (hC : Cn M' (cwd M') lv' mc ms (.ref b :: as) h (KV Kt) T0) (kr : ∀ h', Kt h' → X M lv K T rc' rs' (pc + 3) ls st h') : X M lv K T rc rs pc ls stk h :=
  X_callI hm hd hlv (by omega) (by omega) hn hstk hwt hne hC (fun v h' hk => by
    obtain ⟨rfl, hk⟩ := hk
    exact X_room (by omega) (by omega) (kr h' hk))
end WR
end
section
/-! WIDE TEXTS, INHERITED CALLS, NEW CELLS -/
theorem ce_ext {tc : Nat → ClassId} {ad ad' : Nat → Nat} {h h' : AH} {b : Nat} (w : wf h) (hd : ∀ k, k < mN h → ad' k = ad k) (e1 : mS h' b = mS h b) (e2 : mI h' b = mI h b) (e3 : mR h' b = mR h b) (e4 : mL h' b = mL h b) : ce_ tc ad' h' b = ce_ tc ad h b := by
  have f1 : ∀ j c, fv ad' h' b j c = fv ad h b j c := by
    intro j c
    rcases c with _ | _ | c
    · show Value.int (mI h' b j) = .int (mI h b j)
      rw [e2]
    · show cv ad' (.ref (mR h' b j)) = cv ad (.ref (mR h b j))
      rw [e3]
      exact cv_eq (h := h) hd (v := .ref (mR h b j)) (w.2.1 b j)
    · show Value.long (mL h' b j) = .long (mL h b j)
      rw [e4]
  have f2 : ∀ k, k < mN h → rf ad' k = rf ad k := by
    intro k hk
    unfold rf
    rw [hd k hk]
  have f3 : ∀ t n, ar_ ad' h' b t n = ar_ ad h b t n := by
    intro t n
    unfold ar_
    rw [e2, e4, e3]
    have : (fun i => rf ad' (mR h b i)) = fun i => rf ad (mR h b i) := funext fun i => f2 _ (w.2.1 b i)
    rw [this]
  unfold ce_ fs_
  simp only [e1, f1, f3]
theorem mI_nwo {h : AH} {k n b : Nat} (hb : b ≠ mN h) : mI (nw h k n) b = mI h b := funext fun _ => if_neg hb
theorem mR_nwo {h : AH} {k n b : Nat} (hb : b ≠ mN h) : mR (nw h k n) b = mR h b := funext fun _ => if_neg hb
theorem mL_nwo {h : AH} {k n b : Nat} (hb : b ≠ mN h) : mL (nw h k n) b = mL h b := funext fun _ => if_neg hb
theorem mS_nwo {h : AH} {k n b : Nat} (hb : b ≠ mN h) : mS (nw h k n) b = mS h b := if_neg hb
theorem wf.nw {h : AH} (w : wf h) (k n : Nat) : wf (nw h k n) := by
  have hz := w.1
  have hz2 : (64 : Nat) ≤ mN h := hz
  refine ⟨by rw [mN_nw]; exact Nat.le_succ_of_le hz, fun a j => ?_, fun a ha => ?_, fun a ha => ?_, ?_⟩
  · rw [mR_nw, mN_nw]
    split
    · omega
    · exact Nat.lt_succ_of_lt (w.2.1 a j)
  · rw [mN_nw] at ha
    rw [mS_nwo (by omega)]
    exact w.2.2.1 a (by omega)
  · have ha2 : a < 64 := ha
    rw [mS_nwo (by omega)]
    exact w.2.2.2.1 a ha
  · rw [mS_nwo (by omega)]
    exact w.2.2.2.2
theorem sameS.nw {h : AH} (w : wf h) (k n : Nat) : sameS h (nw h k n) := fun a ha => by
  have hz := w.1
  have hz2 : (64 : Nat) ≤ mN h := hz
  have ha2 : a < 64 := ha
  exact ⟨mS_nwo (by omega), mI_nwo (by omega), mR_nwo (by omega), mL_nwo (by omega)⟩
theorem Rel.push {D : va_G} {tc : Nat → ClassId} {A : Nat → Prop} {ad : Nat → Nat} {h : AH} {s : State} {H H1 : Heap} {locs locs1 : List Loc} {q k n : Nat} {E : va_E} (hR : Rel D tc A ad h s H locs) (hP : va_P D CL (dyn tc ad h ++ [(q, E)]) H1) (hD : va_D A (dyn tc ad h ++ [(q, E)])) (hS : va_S A s.heap H1 locs1) (hE : E = ce_ tc (va_up ad (mN h) q) (nw h k n) (mN h)) : Rel D tc A (va_up ad (mN h) q) (nw h k n) s H1 locs1 := by
  obtain ⟨r1, r2, r3, r4, r5, r6, r7⟩ := hR
  have hd : ∀ b, b < mN h → va_up ad (mN h) q b = ad b := fun b hb => va_up_ne ad q (by omega)
  have e : dyn tc (va_up ad (mN h) q) (nw h k n) = dyn tc ad h ++ [(q, E)] := by
    rw [dyn_push r7.1 (mN_nw h k n) (fun b hb => ⟨hd b hb, ce_ext r7 hd (mS_nwo (by omega)) (mI_nwo (by omega)) (mR_nwo (by omega)) (mL_nwo (by omega))⟩), va_up_self, hE]
  exact ⟨r1, by rw [e]; exact hP, by rw [e]; exact hD, hS, r5.re r7 hd (sameS.nw r7 k n), r6, r7.nw k n⟩
theorem Ext.push {n0 : Nat} {ad0 ad : Nat → Nat} {h0 h : AH} (hE : Ext n0 ad0 h0 ad h) (w : wf h) (q k n : Nat) : Ext n0 ad0 h0 (va_up ad (mN h) q) (nw h k n) := ⟨Nat.le_succ_of_le hE.1, fun b hb => (va_up_ne ad q (by have := hE.1; omega)).trans (hE.2.1 b hb), hE.2.2.tr (sameS.nw w k n)⟩
def dv (c : Nat) : Value := match c with
  | 0 => .int 0
  | 1 => .null
  | _ => .long 0
theorem fv_nw (ad : Nat → Nat) (h : AH) (k n j c : Nat) : fv ad (nw h k n) (mN h) j c = dv c := by
  rcases c with _ | _ | c
  · show Value.int (mI (nw h k n) (mN h) j) = _
    rw [mI_nw, if_pos rfl]
    rfl
  · show cv ad (.ref (mR (nw h k n) (mN h) j)) = _
    rw [mR_nw, if_pos rfl]
    rfl
  · show Value.long (mL (nw h k n) (mN h) j) = _
    rw [mL_nw, if_pos rfl]
    rfl
def NW (own : String) (idx ci N : Nat) : Prop := ∃ (C : String) (TT : u_T) (ty0 : Nat → FieldType), CL[ci]? = some (C, TT, N) ∧ (∀ w ∈ u_ws C TT N, w ∈ gw) ∧ (∀ k, k < N → parseFieldDescriptor (TT k).2.2.1 = some (ty0 k)) ∧ (∀ j, j < N → (fc ci)[j]? = some ((fc ci).getD j 0) ∧ defaultValue (ty0 j) = dv ((fc ci).getD j 0)) ∧ (fc ci).length = N ∧ Cond.classLink own idx C ∈ gw ∧ Cond.instantiable C N ∈ gw ∧ Cond.initialized C ∈ gw ∧ ci < 9
def NA (t : Nat) (atype : ArrayType) : Prop := t < 9 ∧ newarray.typeOf atype = ty_ t ∧ Cond.arrayClass (newarray.typeOf atype) ∈ gw
def az (t n : Nat) : vp_A := (n, if t = 1 then .inr (.inl (fun _ => 0)) else if t = 2 then .inr (.inr (.inr (.inl (fun _ => (0 : Int64).toUInt64)))) else if 5 ≤ t then .inr (.inr (.inr (.inr (fun _ => none)))) else .inl (fun _ => 0))
theorem ar_nw (ad : Nat → Nat) (h : AH) (k m t n : Nat) : ar_ ad (nw h k m) (mN h) t n = az t n := by
  have e1 : mI (nw h k m) (mN h) = fun _ => 0 := funext fun i => by rw [mI_nw, if_pos rfl]
  have e2 : mL (nw h k m) (mN h) = fun _ => 0 := funext fun i => by rw [mL_nw, if_pos rfl]
  have e3 : (fun i => rf ad (mR (nw h k m) (mN h) i)) = fun _ => none := funext fun i => by rw [mR_nw, if_pos rfl]; rfl
  unfold ar_ az
  rw [e1, e2, e3]
section NR
variable {M : Mt} {lv : Nat} {K : Option Value → AH → Prop} {T : String → AH → Prop} {rc rs pc : Nat} {ls : List (Nat × Value)} {st : List Value} {h : AH}
/-- behind a new cell: the point over the greater heap -/
theorem X_fresh {k n rc' rs' pc' : Nat} (kk : X M lv K T rc' rs' pc' ls (.ref (mN h) :: st) (nw h k n))
    {p : Program} {l : Launch} {e : Env} {R : Room} {s : State} {m : MethodId} {args : Array Value} {below : List Frame} {meth : Method} {c : Code} {D : va_G} {tc : Nat → ClassId} {A : Nat → Prop} {n0 : Nat} {ad0 : Nat → Nat} {h0 : AH} {Q : State → Prop} {ad : Nat → Nat} {H : Heap} {locs : List Loc} {cells slots : Nat} {la : Array Slot} {q : Nat}
    (C : Cx M lv p l R s m args meth c) (hw : wf h) (hR : Rel D tc A (va_up ad (mN h) q) (nw h k n) s H locs) (hE : Ext n0 ad0 h0 ad h) (hst : ∀ v ∈ st, vok h v) (hls : ∀ q ∈ ls, vok h q.2) (hla : lv_has la M.2.2.1 (cvl ad ls)) (hc : cells + rc' ≤ R.cells) (hs : slots + rs' ≤ R.slots)
    (eR : EndR M K p l e R s m args below meth c D tc A n0 ad0 h0 Q) (eT : EndT T p l e R s m args below meth c D tc A n0 ad0 h0 Q) : W p l e R s m args below meth c H locs cells slots Q (F0 m pc' la (.ref q :: st.map (cv ad))) := by
  have hd : ∀ b, b < mN h → va_up ad (mN h) q b = ad b := fun b hb => va_up_ne ad q (by omega)
  have hle : mN h ≤ mN (nw h k n) := Nat.le_succ _
  have hne : mN h ≠ 0 := nz_ne hw.1
  have k9 := kk p l e R s m args below meth c D tc A n0 ad0 h0 Q (va_up ad (mN h) q) H locs cells slots la C hR (hE.push hw q k n) (List.forall_mem_cons.mpr ⟨Nat.lt_succ_self _, fun v hv => vok_n hle (hst v hv)⟩) (fun q hq => vok_n hle (hls q hq)) (by rw [cvl_eq hd hls]; exact hla) hc hs eR eT
  rw [List.map_cons, cv_ref hne, va_up_self, cvs_eq hd hst] at k9
  exact k9
theorem X_new {idx ci N rc' rs' : Nat} (hw : NW M.1.cls idx ci N) (hd : decode M.2.1 pc = .ok (.new idx, 3)) (h1 : rc' + 1 ≤ rc) (h2 : rs' + N ≤ rs) (kk : X M lv K T rc' rs' (pc + 3) ls (.ref (mN h) :: st) (nw h (ci + 1) 0)) : X M lv K T rc rs pc ls st h := by
  intro p l e R s m args below meth c D tc A n0 ad0 h0 Q ad H locs cells slots la C hR hE hst hls hla hc hs eR eT
  obtain ⟨hx, hb, hml, hret, hts, hown, hlk, htab, hns, hini, hfr, hlo⟩ := id C
  obtain ⟨r1, r2, r3, r4, r5, r6, r7⟩ := id hR
  obtain ⟨CC, TT, ty0, f1, f2, f3, f4, f5, f6, f7, f8, f9⟩ := hw
  refine va_new (ci := ci) (fs := (fc ci).map dv) hx hb hts f2 ty0 f3 hown (hts _ f6) (hts _ f7) (hts _ f8) r1 r2 r3 r4 r6 f1 (fun j hj => ?_) (by omega) (by omega) hd (fun q H1 hP hD hS1 => ?_)
  · obtain ⟨g1, g2⟩ := f4 j hj
    rw [g2]
    have e9 : ((fc ci).map dv)[j]? = some (dv ((fc ci).getD j 0)) := by
      rw [List.getElem?_map, g1]
      rfl
    show dv ((fc ci).getD j 0) = ((fc ci).map dv).getD j .null
    rw [List.getD_eq_getElem?_getD (l := (fc ci).map dv), e9]
    rfl
  · have hR1 : Rel D tc A (va_up ad (mN h) q) (nw h (ci + 1) 0) s H1 locs := hR.push hP hD hS1 (by
      rw [ce_obj (ci := ci) (n := 0) (by rw [mS_nw, if_pos rfl]) f9]
      unfold fs_
      simp only [fv_nw]
      rw [List.mapIdx_eq_iff.mpr]
      intro i
      rw [List.getElem?_map])
    exact X_fresh kk C r7 hR1 hE hst hls hla (by omega) (by omega) eR eT
theorem X_newa {t rc' rs' N : Nat} {atype : ArrayType} {n : Int32} (ht : NA t atype) (ht5 : t < 5) (hd : decode M.2.1 pc = .ok (.newarray atype, 2)) (hn : ¬ n < 0) (hN : n.toNatClampNeg = N) (hby : N * componentBytes (ty_ t) ≤ 536870912) (h1 : rc' + 1 ≤ rc) (h2 : rs' + N ≤ rs) (kk : X M lv K T rc' rs' (pc + 2) ls (.ref (mN h) :: st) (nw h (100 + t) N)) : X M lv K T rc rs pc ls (.int n :: st) h := by
  intro p l e R s m args below meth c D tc A n0 ad0 h0 Q ad H locs cells slots la C hR hE hst hls hla hc hs eR eT
  obtain ⟨hx, hb, hml, hret, hts, hown, hlk, htab, hns, hini, hfr, hlo⟩ := id C
  obtain ⟨r1, r2, r3, r4, r5, r6, r7⟩ := id hR
  obtain ⟨t1, t2, t3⟩ := ht
  rw [List.map_cons]
  refine va_newa (a0 := az t N) hx hb (hts _ t3) t2 r1 r2 r3 r4 r6 (fun cA => ?_) hn hN hby (by omega) (by omega) hd (fun q cA H1 hK hP hD hS1 => ?_)
  · have h5 : t = 0 ∨ t = 1 ∨ t = 2 ∨ t = 3 ∨ t = 4 := by omega
    rcases h5 with rfl | rfl | rfl | rfl | rfl <;> rfl
  · have ht9 : (tys tc)[t]? = some (tc t, ty_ t) := by
      unfold tys
      rw [List.getElem?_map, List.getElem?_range t1]
      rfl
    have hlen : (tys tc ++ [(cA, ty_ t)])[(tys tc).length]? = some (cA, ty_ t) := by simp
    have g1 := (hK.2 _ _ hlen).2
    have g2 := (r1.2 t _ ht9).2
    have hcA : cA = tc t := by
      have h5 : t = 0 ∨ t = 1 ∨ t = 2 ∨ t = 3 ∨ t = 4 := by omega
      rcases h5 with rfl | rfl | rfl | rfl | rfl <;> exact Option.some.inj ((show s.vm.findClass _ = some cA from g1).symm.trans g2)
    subst hcA
    have hR1 : Rel D tc A (va_up ad (mN h) q) (nw h (100 + t) N) s H1 locs := hR.push hP hD hS1 (by
      rw [ce_arr (t := t) (n := N) (by rw [mS_nw, if_pos rfl]), ar_nw])
    exact X_fresh kk C r7 hR1 hE (fun v hv => hst v (List.mem_cons_of_mem _ hv)) hls hla (by omega) (by omega) eR eT
theorem X_newq {idx t rc' rs' N : Nat} {CC : String} {n : Int32} (hcl : Cond.classLink M.1.cls idx CC ∈ gw) (hao : CC ∈ [RX7, RX8, RX1]) (ht9 : t < 9) (ht5 : 5 ≤ t) (hty : ty_ t = .object CC) (hd : decode M.2.1 pc = .ok (.anewarray idx, 3)) (hn : ¬ n < 0) (hN : n.toNatClampNeg = N) (hby : N * 4 ≤ 536870912) (h1 : rc' + 1 ≤ rc) (h2 : rs' + N ≤ rs) (kk : X M lv K T rc' rs' (pc + 3) ls (.ref (mN h) :: st) (nw h (100 + t) N)) : X M lv K T rc rs pc ls (.int n :: st) h := by
  intro p l e R s m args below meth c D tc A n0 ad0 h0 Q ad H locs cells slots la C hR hE hst hls hla hc hs eR eT
  obtain ⟨hx, hb, hml, hret, hts, hown, hlk, htab, hns, hini, hfr, hlo⟩ := id C
  obtain ⟨r1, r2, r3, r4, r5, r6, r7⟩ := id hR
  rw [List.map_cons]
  refine va_newq hx hb hown (hts _ hcl) (r5.2.2.2.2.2.2.2.2.2.1 CC hao) r1 r2 r3 r4 r6 hn hN hby (by omega) (by omega) hd (fun q cA H1 hK hP hD hS1 => ?_)
  have ht : (tys tc)[t]? = some (tc t, .object CC) := by
    unfold tys
    rw [List.getElem?_map, List.getElem?_range ht9, ← hty]
    rfl
  have hlen : (tys tc ++ [(cA, .object CC)])[(tys tc).length]? = some (cA, .object CC) := by simp
  obtain ⟨_, _, _, _, _, g1⟩ := (hK.2 _ _ hlen).2
  obtain ⟨_, _, _, _, _, g2⟩ := (r1.2 t _ ht).2
  have hcA : cA = tc t := Option.some.inj (g1.symm.trans g2)
  subst hcA
  have hR1 : Rel D tc A (va_up ad (mN h) q) (nw h (100 + t) N) s H1 locs := hR.push hP hD hS1 (by
    rw [ce_arr (t := t) (n := N) (by rw [mS_nw, if_pos rfl]), ar_nw]
    unfold az
    rw [if_neg (by omega), if_neg (by omega), if_pos ht5])
  exact X_fresh kk C r7 hR1 hE (fun v hv => hst v (List.mem_cons_of_mem _ hv)) hls hla (by omega) (by omega) eR eT
theorem X_throwSW {ik is ic : Nat} {cls text : String} {names : List String} (hw : TW M.1.cls ik is ic cls text names) (d0 : decode M.2.1 pc = .ok (.new ik, 3)) (d3 : decode M.2.1 (pc + 3) = .ok (.dup, 1)) (d4 : decode M.2.1 (pc + 4) = .ok (.ldc_w is, 3)) (d7 : decode M.2.1 (pc + 7) = .ok (.invokespecial ic, 3)) (d10 : decode M.2.1 (pc + 10) = .ok (.athrow, 1))
    (hcov : ∀ x ∈ tableOf M.2.2.2.2, covers x (pc + 10) = false) (hlv : names.length + 5 ≤ lv) (hwt : (st.map fun v => v.category).sum ≤ 8) (hc1 : 1 ≤ rc) (hs1 : 6 ≤ rs) (hT : T cls h) : X M lv K T rc rs pc ls st h := by
  intro p l e R s m args below meth c D tc A n0 ad0 h0 Q ad H locs cells slots la C hR hE hst hls hla hc hs eR eT
  obtain ⟨hx, hb, hml, hret, hts, hown, hlk, htab, hns, hini, hfr, hlo⟩ := id C
  obtain ⟨t1, t2, t3, t4, t5, t6⟩ := hw
  obtain ⟨sa, hstr⟩ := hR.2.2.2.2.1.2.2.2.2.2.1 _ t5
  have hw9 := wt_eq ad hwt
  have h9 := vx_throwSW (m := m) (p := p) (l := l) (e := e) (R := R) (args := args) (below := below) (locs := locs) (cells := cells) (slots := slots) (ls := la) (rest := st.map (cv ad)) (Qc := fun _ _ _ _ => False) (XC := fun E st t => (∃ (h : AH) (ad : Nat → Nat), T E h ∧ Wt D tc A n0 ad0 h0 ad h t) ∧ va_F A st t) (mc := R.cells) (ms := R.slots) (free := A) (names := names) hx hb hns hown t1 t2 (hts _ t3) (hts _ t4) hstr (fun w hw => okW_at hR.2.2.2.2.1 hts (t6 w hw).1 (t6 w hw).2) (fun w hw => by
    rcases List.mem_cons.mp hw with rfl | hw
    · exact gw_ot t3
    · rcases List.mem_cons.mp hw with rfl | hw
      · exact gw_ot t4
      · exact okW_ot (t6 w hw).2) hR.2.2.2.2.1.2.1 hR.2.2.2.2.1.2.2.1 hR.2.2.2.1 (hla.1.trans hml.symm) d0 d3 d4 d7 d10 (by rw [htab]; exact hcov) (by omega) (by omega) (by omega) (by omega) hlk (fun t _ hz hq => by
    obtain ⟨w1, w2⟩ := wt_of hR hE (t := t) hz hq
    exact ⟨⟨h, ad, hT, w1⟩, w2⟩) hR.2.2.2.1.2.2 (by omega) (by omega)
  intro T9 hT9 X9
  obtain ⟨t, a1, b1⟩ := h9 T9 hT9 X9
  exact ⟨t, a1, eT t b1⟩
theorem X_getstN {idx j : Nat} {o n d host : String} {v : Int32} {x : Nat} (hq : zsl[j]? = some (o, n, d, 1, v, x)) (hne : x ≠ 0) (hl : (M.1.cls, idx, o, n, d, host) ∈ nfl) (hd : decode M.2.1 pc = .ok (.getstatic idx, 3)) (kk : X M lv K T rc rs (pc + 3) ls (.ref x :: st) h) : X M lv K T rc rs pc ls st h := by
  intro p l e R s m args below meth c D tc A n0 ad0 h0 Q ad H locs cells slots la C hR hE hst hls hla hc hs eR eT
  obtain ⟨hx, hb, hml, hret, hts, hown, hlk, htab, hns, hini, hfr, hlo⟩ := id C
  obtain ⟨r1, r2, r3, r4, r5, r6, r7⟩ := id hR
  have hm := List.mem_of_getElem? hq
  have h9 := r5.2.2.2.1 _ hm
  have hz : x < nZ := (show ∀ q ∈ zsl, q.2.2.2.2.2 < nZ by decide +kernel) _ hm
  have k9 := kk p l e R s m args below meth c D tc A n0 ad0 h0 Q ad H locs cells slots la C hR hE (List.forall_mem_cons.mpr ⟨Nat.lt_of_lt_of_le hz r7.1, hst⟩) hls hla hc hs eR eT
  rw [List.map_cons, cv_ref hne] at k9
  exact va_getsN (host := host) hx hb h9 r4 hown (va_Nw.use rfl (r5.2.2.2.2.2.2.1 _ hl)) (fun _ h => h) hd k9
end NR
end
section
/-! CALLS: INHERITED, OF THE SUPERCLASS, OF STATIC METHODS WITH A TABLE -/
section C2
variable {M : Mt} {lv : Nat} {K : Option Value → AH → Prop} {T : String → AH → Prop} {rc rs pc : Nat} {ls : List (Nat × Value)} {st : List Value} {h : AH}
def MU (own : String) (idx : Nat) (M' : Mt) (n : Nat) (C : String) : Prop := MD M' n ∧ Cond.methodLink own idx ⟨C, M'.1.name, M'.1.desc⟩ ∈ gw ∧ Cond.sameMethod C M'.1.cls M'.1.name M'.1.desc ∈ gw ∧ Cond.selects C ⟨C, M'.1.name, M'.1.desc⟩ M'.1 ∈ gw ∧ Cond.instanceMethod M'.1 ∈ gw ∧ cwd M' ∈ gw
theorem X_uI {M' : Mt} {idx n lv' mc ms rc' rs' b : Nat} {C : String} {as stk : List Value} {Kt : Int32 → AH → Prop} (hm : MU M.1.cls idx M' n C) (hd : decode M.2.1 pc = .ok (.invokevirtual idx, 3)) (hlv : lv' + 1 ≤ lv) (h1 : rc' + mc ≤ rc) (h2 : rs' + ms ≤ rs) (hn : as.length = n) (hstk : stk = as.reverse ++ .ref b :: st) (hwt : (st.map fun v => v.category).sum ≤ 8)
    (hr : rcv h b C) (hC : Cn M' (cwd M') lv' mc ms (.ref b :: as) h (KI Kt) T0) (kr : ∀ r h', Kt r h' → X M lv K T rc' rs' (pc + 3) ls (.int r :: st) h') : X M lv K T rc rs pc ls stk h := by
  subst hstk
  intro p l e R s m args below meth cc D tc A n0 ad0 h0 Q ad H locs cells slots la C9 hR hE hst hls hla hc hs eR eT
  obtain ⟨hx, hb, hml, hret, hts, hown, hlk, htab, hns, hini, hfr, hlo⟩ := id C9
  obtain ⟨⟨d1, d2, d3, d4⟩, m2, m3, m4, m5, m6⟩ := hm
  obtain ⟨hne, hcell⟩ := rcv_cell hR hr
  have hst9 : ∀ v ∈ st, vok h v := fun v hv => hst v (List.mem_append_right _ (List.mem_cons_of_mem _ hv))
  have hav : ∀ v ∈ (.ref b :: as), vok h v := fun v hv => by
    rcases List.mem_cons.mp hv with rfl | hv
    · exact hst _ (List.mem_append_right _ List.mem_cons_self)
    · exact hst v (List.mem_append_left _ (List.mem_reverse.mpr hv))
  have e9 : ((as.reverse ++ .ref b :: st).map (cv ad)) = (as.map (cv ad)).reverse ++ .ref (ad b) :: st.map (cv ad) := by
    rw [List.map_append, List.map_cons, cv_ref hne, List.map_reverse]
  rw [e9]
  have ea : ((Value.ref b :: as).map (cv ad)) = .ref (ad b) :: as.map (cv ad) := by rw [List.map_cons, cv_ref hne]
  have hU : va_CU R s args M.1.cls C M'.1.cls idx ⟨C, M'.1.name, M'.1.desc⟩ M'.1 M'.2.1 M'.2.2.1 M'.2.2.2.1 (cwd M' :: gw) ({ frames := lv', cells := mc, slots := ms, locals := 40 * lv' } : Room) mc ms n := by
    refine ⟨⟨rfl, rfl, by show lv' + 1 ≤ _; omega, by show 8 + (M'.2.2.1 + 11) + 40 * lv' ≤ R.locals; omega, pay_gw m6 hts, List.mem_cons_self⟩, hts _ m6, hts _ d1, d2, fun sig h => ?_, hts _ m2, hts _ m3, va_Decl.of (hts _ m5) (hts _ m6), hts _ m4, hts _ m5⟩
    have h9 : parseMethodDescriptor M'.1.desc = some sig := h
    rw [h9] at d3
    exact (Option.some.inj d3).symm
  have hrun := va_runU (e := e) (below := below) (meth := meth) (locs := locs) (cells := cells) (slots := slots) (rest := st.map (cv ad)) (g := F0 m pc la ((as.map (cv ad)).reverse ++ .ref (ad b) :: st.map (cv ad))) ⟨hx, hb, hml, hown, hts⟩ (met_of_vx (hC l hns D tc ad H.size) qx_no) hU ⟨pcn_blind D tc ad h H.size _, hcell, fun U hU hW => ⟨by rw [ea], by rw [hU], hR.enter hU hW, hav⟩⟩ rfl ((List.length_map ..).trans hn) hla.1 rfl (wt_eq ad hwt) hd ⟨by omega, by omega⟩
  exact X_after (T' := fun _ _ => False) (by omega) (by omega) (fun v h' hk => by
    obtain ⟨r, rfl, hk⟩ := hk
    exact X_room (by omega) (by omega) (kr r h' hk)) (fun _ _ z => z.elim) C9 hR hE hst9 hls hla hc hs eR eT (fun T9 hT X9 => Or.inl (hrun T9 hT X9))
def MP (own : String) (idx : Nat) (M' : Mt) (n : Nat) : Prop := MD M' n ∧ Cond.methodLink own idx M'.1 ∈ gw ∧ Cond.sameMethod M'.1.cls M'.1.cls M'.1.name M'.1.desc ∈ gw ∧ Cond.superclass own M'.1.cls ∈ gw ∧ Cond.instanceMethod M'.1 ∈ gw ∧ cwd M' ∈ gw ∧ M'.1.name ≠ "<init>"
theorem X_callP {M' : Mt} {idx n lv' mc ms rc' rs' b : Nat} {as stk : List Value} {K' : Option Value → AH → Prop} (hm : MP M.1.cls idx M' n) (hd : decode M.2.1 pc = .ok (.invokespecial idx, 3)) (hlv : lv' + 1 ≤ lv) (h1 : rc' + mc ≤ rc) (h2 : rs' + ms ≤ rs) (hn : as.length = n) (hstk : stk = as.reverse ++ .ref b :: st) (hwt : (st.map fun v => v.category).sum ≤ 8)
    (hr : isO h b 8) (hC : Cn M' (cwd M') lv' mc ms (.ref b :: as) h K' T0) (kr : ∀ v h', K' v h' → X M lv K T rc' rs' (pc + 3) ls (v.toList ++ st) h') : X M lv K T rc rs pc ls stk h := by
  subst hstk
  intro p l e R s m args below meth cc D tc A n0 ad0 h0 Q ad H locs cells slots la C9 hR hE hst hls hla hc hs eR eT
  obtain ⟨hx, hb, hml, hret, hts, hown, hlk, htab, hns, hini, hfr, hlo⟩ := id C9
  obtain ⟨⟨d1, d2, d3, d4⟩, m2, m3, m4, m5, m6, m7⟩ := hm
  obtain ⟨hne, hcell⟩ := rcv_cell hR (rcvD (C := RJ4) (TT := TJ4) (N := 4) hr (by decide) rfl)
  have hst9 : ∀ v ∈ st, vok h v := fun v hv => hst v (List.mem_append_right _ (List.mem_cons_of_mem _ hv))
  have hav : ∀ v ∈ (.ref b :: as), vok h v := fun v hv => by
    rcases List.mem_cons.mp hv with rfl | hv
    · exact hst _ (List.mem_append_right _ List.mem_cons_self)
    · exact hst v (List.mem_append_left _ (List.mem_reverse.mpr hv))
  have e9 : ((as.reverse ++ .ref b :: st).map (cv ad)) = (as.map (cv ad)).reverse ++ .ref (ad b) :: st.map (cv ad) := by
    rw [List.map_append, List.map_cons, cv_ref hne, List.map_reverse]
  rw [e9]
  have ea : ((Value.ref b :: as).map (cv ad)) = .ref (ad b) :: as.map (cv ad) := by rw [List.map_cons, cv_ref hne]
  have hS : va_CS R s args M.1.cls idx M'.1 M'.2.1 M'.2.2.1 M'.2.2.2.1 (cwd M' :: gw) ({ frames := lv', cells := mc, slots := ms, locals := 40 * lv' } : Room) mc ms n := by
    refine ⟨⟨rfl, rfl, by show lv' + 1 ≤ _; omega, by show 8 + (M'.2.2.1 + 11) + 40 * lv' ≤ R.locals; omega, pay_gw m6 hts, List.mem_cons_self⟩, hts _ m2, hts _ m3, hts _ m4, hts _ m5, hts _ d1, hts _ m6, m7, fun sig h => ?_⟩
    rw [h] at d3
    exact (Option.some.inj d3).symm
  have hat : ClassAt s RJ4 (D.1 8) := (hR.1.1 8 (RJ4, TJ4, 4) rfl).2
  have hrun := va_runSU (e := e) (below := below) (meth := meth) (locs := locs) (cells := cells) (slots := slots) (rest := st.map (cv ad)) (g := F0 m pc la ((as.map (cv ad)).reverse ++ .ref (ad b) :: st.map (cv ad))) hat ⟨hx, hb, hml, hown, hts⟩ (met_of_vx (hC l hns D tc ad H.size) qx_no) hS ⟨pcn_blind D tc ad h H.size _, hcell, fun U hU hW => ⟨by rw [ea], by rw [hU], hR.enter hU hW, hav⟩⟩ rfl ((List.length_map ..).trans hn) hla.1 rfl (wt_eq ad hwt) hd ⟨by omega, by omega⟩
  exact X_after (T' := fun _ _ => False) (by omega) (by omega) (fun v h' hk => X_room (by omega) (by omega) (kr v h' hk)) (fun _ _ z => z.elim) C9 hR hE hst9 hls hla hc hs eR eT (fun T9 hT X9 => Or.inl (hrun T9 hT X9))
def MSH (own : String) (idx : Nat) (M' : Mt) (n : Nat) : Prop := MD M' n ∧ Cond.methodLink own idx M'.1 ∈ gw ∧ Cond.static M'.1 ∈ gw ∧ cwh M' ∈ gw
theorem X_sH {M' : Mt} {idx n lv' mc ms rc' rs' : Nat} {as stk : List Value} {Kt : Int32 → AH → Prop} (hm : MSH M.1.cls idx M' n) (hd : decode M.2.1 pc = .ok (.invokestatic idx, 3)) (hlv : lv' + 1 ≤ lv) (h1 : rc' + mc ≤ rc) (h2 : rs' + ms ≤ rs) (hn : as.length = n) (hstk : stk = as.reverse ++ st) (hwt : (st.map fun v => v.category).sum ≤ 8)
    (hC : Cn M' (cwh M') lv' mc ms as h (KI Kt) T0) (kr : ∀ r h', Kt r h' → X M lv K T rc' rs' (pc + 3) ls (.int r :: st) h') : X M lv K T rc rs pc ls stk h := by
  subst hstk
  intro p l e R s m args below meth cc D tc A n0 ad0 h0 Q ad H locs cells slots la C9 hR hE hst hls hla hc hs eR eT
  obtain ⟨hx, hb, hml, hret, hts, hown, hlk, htab, hns, hini, hfr, hlo⟩ := id C9
  obtain ⟨⟨d1, d2, d3, d4⟩, m2, m3, m5⟩ := hm
  have hst9 : ∀ v ∈ st, vok h v := fun v hv => hst v (List.mem_append_right _ hv)
  have hav : ∀ v ∈ as, vok h v := fun v hv => hst v (List.mem_append_left _ (List.mem_reverse.mpr hv))
  rw [List.map_append, List.map_reverse]
  have hS : vx_CSW R s args M.1.cls idx M'.1 M'.2.1 M'.2.2.1 M'.2.2.2.1 M'.2.2.2.2 (cwh M' :: gw) ({ frames := lv', cells := mc, slots := ms, locals := 40 * lv' } : Room) mc ms n := by
    refine ⟨⟨rfl, rfl, by show lv' + 1 ≤ _; omega, by show 8 + (M'.2.2.1 + 11) + 40 * lv' ≤ R.locals; omega, pay_gw m5 hts, List.mem_cons_self⟩, hts _ m5, hts _ d1, d2, fun sig h => ?_, hts _ m2, hts _ m3⟩
    rw [h] at d3
    exact (Option.some.inj d3).symm
  have hrun := vx_runSX (e := e) (below := below) (meth := meth) (locs := locs) (cells := cells) (slots := slots) (rest := st.map (cv ad)) (g := F0 m pc la ((as.map (cv ad)).reverse ++ st.map (cv ad))) ⟨hx, hb, hml, hown, hts⟩ (hC l hns D tc ad H.size) hS ⟨pcn_blind D tc ad h H.size _, fun U hU hW => ⟨rfl, by rw [hU], hR.enter hU hW, hav⟩⟩ rfl ((List.length_map ..).trans hn) hla.1 rfl (wt_eq ad hwt) hd ⟨by omega, by omega⟩
  exact X_after (T' := fun _ _ => False) (by omega) (by omega) (fun v h' hk => by
    obtain ⟨r, rfl, hk⟩ := hk
    exact X_room (by omega) (by omega) (kr r h' hk)) (fun _ _ z => z.elim) C9 hR hE hst9 hls hla hc hs eR eT hrun
end C2
theorem i32_of {x k : Int32} (h : x.toInt = k.toInt) : x = k := Int32.toInt_inj.mp h
/-- a table's default: out of the range, or a gap -/
theorem X_tab {M : Mt} {lv : Nat} {K : Option Value → AH → Prop} {T : String → AH → Prop} {rc rs pc : Nat} {ls : List (Nat × Value)} {st : List Value} {h : AH} {dflt lo hi : Int} {offs : Array Int} {len : Nat} {x : Int32} {tgt : Nat} (hd : decode M.2.1 pc = .ok (.tableswitch dflt lo hi offs, len)) (ht : (pc : Int) + dflt = (tgt : Int)) (hg : ¬ x.toInt < lo → ¬ hi < x.toInt → ∃ off, offs[(x.toInt - lo).toNat]? = some off ∧ (pc : Int) + off = (tgt : Int)) (k : X M lv K T rc rs tgt ls st h) : X M lv K T rc rs pc ls (.int x :: st) h := by
  by_cases h1 : x.toInt < lo
  · exact X_tableOut hd (Or.inl h1) ht k
  · by_cases h2 : hi < x.toInt
    · exact X_tableOut hd (Or.inr h2) ht k
    · obtain ⟨off, g1, g2⟩ := hg h1 h2
      exact X_tableIn hd h1 h2 g1 g2 k
end
section
/-! STATICS OF WHICH ONLY 'A REFERENCE OR NULL' IS SAID; ARRAYS OF ARRAYS; A THROW WHOSE FIRST CONSTRUCTOR HAS AN INDEX OF ITS OWN -/
def gI (comp : ClassId) (k : Nat) : Cell := { cls := comp, slots := Array.replicate k (.int 0), vm := .none }
def gR (z i j : Nat) : Value := if j < i then .ref (z + 1 + j) else .null
def gO (cA : ClassId) (n z i : Nat) : Cell := { cls := cA, slots := ((List.range n).map (gR z i)).toArray, vm := .none }
def gS (s : State) (cA comp : ClassId) (n k : Nat) : Nat → State
  | 0 => s.pushCell (gO cA n s.heap.size 0)
  | i + 1 => ((gS s cA comp n k i).pushCell (gI comp k)).setCell s.heap.size (gO cA n s.heap.size (i + 1))
theorem gO_size (cA : ClassId) (n z i : Nat) : (gO cA n z i).slots.size = n := by simp [gO]
theorem gO_zero (cA : ClassId) (n z : Nat) : gO cA n z 0 = { cls := cA, slots := Array.replicate n .null, vm := .none } := by
  unfold gO
  congr 1
  apply Array.ext
  · simp
  · intro i h1 h2
    simp [gR]
theorem gO_set (cA : ClassId) {n z i : Nat} (hi : i < n) : (gO cA n z i).setSlot i (.ref (z + 1 + i)) = gO cA n z (i + 1) := by
  unfold gO Cell.setSlot
  congr 1
  apply Array.ext_getElem?
  intro j
  rw [Array.getElem?_setIfInBounds]
  by_cases e : i = j
  · subst e
    simp [gR, hi]
  · rw [if_neg e]
    simp only [List.getElem?_toArray, List.getElem?_map]
    by_cases hj : j < n
    · rw [List.getElem?_range hj]
      simp only [Option.map_some]
      unfold gR
      by_cases g : j < i
      · rw [if_pos g, if_pos (by omega)]
      · rw [if_neg g, if_neg (by omega)]
    · rw [List.getElem?_eq_none (by rw [List.length_range]; omega)]
      rfl
theorem gS_facts (s : State) (cA comp : ClassId) (n k : Nat) : ∀ i, (gS s cA comp n k i).heap.size = s.heap.size + 1 + i ∧ (gS s cA comp n k i).heap[s.heap.size]? = some (gO cA n s.heap.size i) ∧ (gS s cA comp n k i).vm = s.vm ∧ (gS s cA comp n k i).slotsUsed = s.slotsUsed + n + i * k ∧ (∀ a, a < s.heap.size → (gS s cA comp n k i).heap[a]? = s.heap[a]?) ∧ ∀ j, j < i → (gS s cA comp n k i).heap[s.heap.size + 1 + j]? = some (gI comp k)
  | 0 => by
    refine ⟨by simp [gS, State.pushCell], by simp [gS, State.pushCell], rfl, by simp [gS, State.pushCell, gO_size], fun a ha => ?_, fun j hj => absurd hj (Nat.not_lt_zero j)⟩
    simp only [gS, State.pushCell]
    rw [Array.getElem?_push, if_neg (by omega)]
  | i + 1 => by
    obtain ⟨f1, f2, f3, f4, f5, f6⟩ := gS_facts s cA comp n k i
    refine ⟨by simp [gS, State.pushCell, State.setCell, f1]; omega, ?_, f3, ?_, fun a ha => ?_, fun j hj => ?_⟩
    · simp only [gS, State.pushCell, State.setCell]
      rw [Array.getElem?_setIfInBounds, if_pos rfl, if_pos (by rw [Array.size_push, f1]; omega)]
    · simp only [gS, State.pushCell, State.setCell, f4, gI, Array.size_replicate, Nat.succ_mul]
      omega
    · simp only [gS, State.pushCell, State.setCell]
      rw [Array.getElem?_setIfInBounds, if_neg (by omega), Array.getElem?_push, if_neg (by omega)]
      exact f5 a ha
    · simp only [gS, State.pushCell, State.setCell]
      rw [Array.getElem?_setIfInBounds, if_neg (by omega), Array.getElem?_push]
      by_cases e : s.heap.size + 1 + j = (gS s cA comp n k i).heap.size
      · rw [if_pos e]
      · rw [if_neg e]
        exact f6 j (by omega)
theorem gS_setTop (s : State) (f : JFrame) (cA comp : ClassId) (n k : Nat) : ∀ i, gS (s.setTop f) cA comp n k i = (gS s cA comp n k i).setTop f
  | 0 => rfl
  | i + 1 => by
    simp only [gS, gS_setTop s f cA comp n k i, State.heap_setTop, State.pushCell_setTop, State.setCell_setTop]
section GW
variable {E : CtlPost} {e : Env} {d : Bool} {acts : List Action} {s : State}
theorem g_newA {c comp : ClassId} {k : Class} {type : FieldType} {len : Nat} {init : Value} (hk : s.vm.classes[c]? = some k) (hkind : k.kind = .array comp type) (h1 : ¬ len > e.platform.arrayLengthLimit) (h2 : ¬ len * componentBytes type > e.platform.maxHeapBytes) (hfit : fits type init = true) (hdef : init.isDefault = true) {Q : Addr → Pre} (h3 : s.heap.size < e.platform.maxCells) (h4 : s.slotsUsed + len ≤ e.platform.maxSlots)
    (hq : Q s.heap.size d acts (s.pushCell { cls := c, slots := Array.replicate len init, vm := .none })) : wp (Jvm.newArray c len init) Q E e d acts s := by
  have hda : allocActs (Array.replicate len init) s.heap.size acts = acts := by
    unfold allocActs
    rw [if_pos]
    rw [Array.all_replicate]
    split <;> simp [hdef]
  simp only [Jvm.newArray, Jvm.arrayFits, wp_bind', W.ask, W.ite, h1, if_false, wp_pure', W.theClass, hk, hkind, h2, W.alloc, W.stop, Option.some.injEq, exists_eq_left', Array.size_replicate, hda]
  rw [if_neg (by omega)]
  refine ⟨h3, h4, fun i v hv => ?_, hq⟩
  rw [Array.getElem?_replicate] at hv
  split at hv
  · cases hv
    simp [State.fitsSlot, State.slotType?, hk, hkind, hfit]
  · cases hv
theorem g_make {cA comp c1 : ClassId} {kA kC : Class} {n k : Int32} (hkA : s.vm.classes[cA]? = some kA) (hA : kA.kind = .array comp (.array .int)) (hkC : s.vm.classes[comp]? = some kC) (hC : kC.kind = .array c1 .int) (hn : ¬ n < 0) (hk : ¬ k < 0)
    (l1 : n.toNatClampNeg ≤ e.platform.arrayLengthLimit) (b1 : n.toNatClampNeg * 4 ≤ e.platform.maxHeapBytes) (l2 : k.toNatClampNeg ≤ e.platform.arrayLengthLimit) (b2 : k.toNatClampNeg * 4 ≤ e.platform.maxHeapBytes)
    (hc : s.heap.size + 1 + n.toNatClampNeg ≤ e.platform.maxCells) (hs : s.slotsUsed + n.toNatClampNeg + n.toNatClampNeg * k.toNatClampNeg ≤ e.platform.maxSlots) {Q : Addr → Pre}
    (hq : ∀ d' acts', Q s.heap.size d' acts' (gS s cA comp n.toNatClampNeg k.toNatClampNeg n.toNatClampNeg)) : wp (multianewarray.make cA [n, k]) Q E e d acts s := by
  have hfind : ([k].find? (· < 0)) = none := by simp [hk]
  generalize hN : n.toNatClampNeg = N at *
  rw [multianewarray.make]
  simp only [wp_bind', W.ite, hn, if_false, wp_pure', W.theClass, hkA, hA, Option.some.injEq, exists_eq_left']
  rw [hN]
  refine g_newA hkA hA (by omega) (by show ¬ N * 4 > _; omega) rfl rfl (by omega) (by have := Nat.zero_le (N * k.toNatClampNeg); omega) ?_
  rw [← gO_zero cA N s.heap.size]
  simp only [hfind]
  rw [ite_self, wp_bind', Std.Legacy.Range.forIn_eq_forIn_range']
  rw [show ([:N] : Std.Legacy.Range).size = N by simp [Std.Legacy.Range.size]]
  show wp (forIn (List.range' 0 N 1) PUnit.unit _) _ E e d acts (gS s cA comp N k.toNatClampNeg 0)
  refine wp_forIn_inv (fun r s' => ∃ i, i ≤ N ∧ r = List.range' i (N - i) ∧ s' = gS s cA comp N k.toNatClampNeg i) _ _ ⟨0, Nat.zero_le _, rfl, rfl⟩ ?_ ?_
  · rintro x r s' d' acts' Q' ⟨i, hi, hl, rfl⟩ hnext
    have hlt : i < N := by
      rcases Nat.lt_or_ge i N with h | h
      · exact h
      · rw [show N - i = 0 by omega] at hl
        cases hl
    rw [show N - i = (N - (i + 1)) + 1 by omega, List.range'_succ] at hl
    cases hl
    obtain ⟨f1, f2, f3, f4, f5, f6⟩ := gS_facts s cA comp N k.toNatClampNeg x
    have hmul : (x + 1) * k.toNatClampNeg ≤ N * k.toNatClampNeg := Nat.mul_le_mul_right _ hlt
    rw [Nat.succ_mul] at hmul
    simp only [wp_bind']
    rw [multianewarray.make]
    simp only [wp_bind', W.ite, hk, if_false, wp_pure', W.theClass, f3, hkC, hC, Option.some.injEq, exists_eq_left']
    refine g_newA (by rw [f3]; exact hkC) hC (by omega) (by show ¬ k.toNatClampNeg * 4 > _; omega) rfl rfl (by rw [f1]; omega) (by rw [f4]; omega) ?_
    have hlt0 : s.heap.size < (gS s cA comp N k.toNatClampNeg x).heap.size := by rw [f1]; omega
    simp only [wp_bind', W.writeLoc, wp_pure']
    refine ⟨gO cA N s.heap.size x, ?_, (by first | (intro z; cases z) | rfl | simp [gO]), (by rw [gO_size]; exact hlt), ?_, hnext _ _ _ ⟨x + 1, hlt, rfl, ?_⟩⟩
    · show ((gS s cA comp N k.toNatClampNeg x).heap.push _)[s.heap.size]? = _
      rw [Array.getElem?_push, if_neg (by omega)]
      exact f2
    · simp [State.fitsSlot, State.slotType?, State.pushCell, f3, hkA, hA, gO, fits]
    · rw [f1, gO_set cA hlt]
      rfl
  · rintro s' d' acts' ⟨i, hi, hl, rfl⟩
    have : i = N := by
      rcases Nat.lt_or_ge i N with h | h
      · rw [show N - i = (N - (i + 1)) + 1 by omega, List.range'_succ] at hl
        cases hl
      · omega
    subst this
    simp only [wp_pure']
    exact hq _ _
end GW
section MU
variable {p : Program} {l : Launch} {e : Env} {R : Room} {s : State} {m : MethodId} {args : Array Value} {below : List Frame} {meth : Method} {c : Code} {T : State} {locs : List Loc} {cells slots : Nat}
theorem gS_stand (X : Stand p l e R s m args below meth c T locs cells slots) (cA comp : ClassId) (n k : Nat) : ∀ i, i ≤ n → ∃ L, Stand p l e R s m args below meth c (gS T cA comp n k i) (locs ++ L) (cells + 1 + i) (slots + n + i * k) ∧ ∀ z ∈ L, z.base = T.heap.size
  | 0, _ => by
    have h := X.pushed (gO cA n T.heap.size 0)
    rw [gO_size] at h
    exact ⟨[], by simpa [gS] using h, fun z hz => nomatch hz⟩
  | i + 1, hi => by
    obtain ⟨L, h, hL⟩ := gS_stand X cA comp n k i (by omega)
    obtain ⟨f1, f2, f3, f4, f5, f6⟩ := gS_facts T cA comp n k i
    have h1 := h.pushed (gI comp k)
    have hg : ((gS T cA comp n k i).pushCell (gI comp k)).heap[T.heap.size]? = some (gO cA n T.heap.size i) := by
      show ((gS T cA comp n k i).heap.push _)[T.heap.size]? = _
      rw [Array.getElem?_push, if_neg (by omega)]
      exact f2
    have h2 := h1.stored hg i (.ref (T.heap.size + 1 + i))
    rw [gO_set cA hi, show (gI comp k).slots.size = k by simp [gI]] at h2
    refine ⟨L ++ [⟨T.heap.size, i⟩], ?_, fun z hz => ?_⟩
    · rw [Nat.succ_mul, ← List.append_assoc]
      have e3 : slots + n + (i * k + k) = slots + n + i * k + k := by omega
      rw [e3]
      exact h2
    · rcases List.mem_append.mp hz with hz | hz
      · exact hL z hz
      · rw [List.mem_singleton.mp hz]
theorem g_W {H : Heap} {Q : State → Prop} {cc : ByteArray} (hexec : p.tables.exec = Jvm.exec) (hb : c.code = cc) {own : String} {index : Nat} (hown : s.vm.findClass own = some m.cls) (hcl : (Cond.classLink own index "[[I").before args s = true) {cA comp c1 : ClassId} {kA kC : Class} (hA : s.vm.findClass "[[I" = some cA) (hkA : s.vm.classes[cA]? = some kA) (kA2 : kA.kind = .array comp (.array .int)) (hkC : s.vm.classes[comp]? = some kC) (kC2 : kC.kind = .array c1 .int)
    {n k : Int32} {N K : Nat} (hn : ¬ n < 0) (hk : ¬ k < 0) (hN : n.toNatClampNeg = N) (hK : k.toNatClampNeg = K) (hN2 : N ≤ 1000) (hK2 : K ≤ 1000) {g : JFrame} (hg : g.method = m) (hdg : decode cc g.pc = .ok (.multianewarray index 2, 4)) {rest : List Value} (hstack : g.stack = .int k :: .int n :: rest) (hH : s.heap.size ≤ H.size) (hcells : cells + 1 + N ≤ R.cells) (hslots : slots + N + N * K ≤ R.slots)
    (kk : ∀ H1 : Heap, H1.size = H.size + 1 + N → (∀ a, a < H.size → H1[a]? = H[a]?) → H1[H.size]? = some (gO cA N H.size N) → (∀ j, j < N → H1[H.size + 1 + j]? = some (gI comp K)) → W p l e R s m args below meth c H1 locs (cells + 1 + N) (slots + N + N * K) Q { g with pc := g.pc + 4, stack := .ref H.size :: rest }) : W p l e R s m args below meth c H locs cells slots Q g := by
  intro T hT X
  subst hT; subst hb; subst hg
  have hpl : e.platform.magicAccessors = ({} : Platform).magicAccessors := by rw [X.admits.platform]
  obtain ⟨c0, hfc0, hcl0⟩ := Cond.classLink_spec hown hcl e.platform hpl
  cases hA.symm.trans hfc0
  obtain ⟨hg₁, hwarm₁, hready₁⟩ := State.classEntry (e := e) X.warmed hcl0
  generalize T.vm.noted g.method.cls index (.cls cA) = vm₁ at hg₁ hwarm₁ hready₁
  have hal : s.vm.Alike vm₁ := hwarm₁.alike
  obtain ⟨kA', hkA', heA⟩ := hal.2.2 _ _ hkA
  obtain ⟨kC', hkC', heC⟩ := hal.2.2 _ _ hkC
  have X1 := X.noted hwarm₁
  obtain ⟨hr1, hr2⟩ := X.roomAbove (a := 1 + N) (b := N + N * K) (by omega) (by omega)
  obtain ⟨L, X2, hL⟩ := gS_stand X1 cA comp N K N (Nat.le_refl _)
  have X3 := X2.forget (fun y hy => by rw [hL y hy]; exact hH)
  obtain ⟨f1, f2, f3, f4, f5, f6⟩ := gS_facts (T.setVm vm₁) cA comp N K N
  obtain ⟨t, a1, b1⟩ := kk _ f1 f5 f2 f6 _ rfl X3
  refine ⟨t, ?_, b1⟩
  have l1 : n.toNatClampNeg ≤ e.platform.arrayLengthLimit := by rw [Launch.admits_arrayLengthLimit X.admits]; omega
  have b1' : n.toNatClampNeg * 4 ≤ e.platform.maxHeapBytes := by rw [Launch.admits_maxHeapBytes X.admits]; omega
  have l2 : k.toNatClampNeg ≤ e.platform.arrayLengthLimit := by rw [Launch.admits_arrayLengthLimit X.admits]; omega
  have b2 : k.toNatClampNeg * 4 ≤ e.platform.maxHeapBytes := by rw [Launch.admits_maxHeapBytes X.admits]; omega
  jvm_step X.here [hexec, hdg]
  simp only [multianewarray.sem, wp_bind', W.resolveClassAt_links (State.method?_setTop g X.here.top) hg₁]
  rw [W.popN, if_neg (by decide)]
  refine ⟨g, State.topJava?_setTop' (s := T.setVm vm₁) g X.here.top, [.int n, .int k], rest, rfl, hstack, ?_⟩
  simp only [List.mapM_cons, List.mapM_nil, wp_bind', wp_pure']
  refine g_make (kA := kA') (kC := kC') (comp := comp) (c1 := c1) hkA' (by rw [heA]; exact kA2) hkC' (by rw [heC]; exact kC2) hn hk l1 b1' l2 b2 (by show T.heap.size + 1 + _ ≤ _; omega) (by show T.slotsUsed + _ + _ ≤ _; rw [hN, hK]; omega) (fun d' acts' => ?_)
  rw [hN, hK]
  have eS : ((T.setTop g).setVm vm₁).setTop { g with stack := rest } = (T.setVm vm₁).setTop { g with stack := rest } := by
    show ((T.setVm vm₁).setTop g).setTop _ = _
    rw [State.setTop_setTop]
  rw [eS, gS_setTop]
  simp only [wp_bind', W.mark, W.pushRef, State.topJava?_setTop' _ X3.here.top, Option.some.injEq, exists_eq_left', State.setTop_setTop, State.heap_setTop]
  intro acts
  simp [jvm, X3.here.top]
  exact a1
end MU
/-- the heap with a new array of N arrays of K numbers -/
def nwM (h : AH) (n k : Nat) : AH := (fun a => if a = mN h then (108, n) else if mN h < a ∧ a ≤ mN h + n then (100, k) else mS h a, fun a j => if mN h ≤ a ∧ a ≤ mN h + n then 0 else mI h a j, fun a j => if a = mN h then (if j < n then mN h + 1 + j else 0) else if mN h < a ∧ a ≤ mN h + n then 0 else mR h a j, fun a j => if mN h ≤ a ∧ a ≤ mN h + n then 0 else mL h a j, mN h + 1 + n)
def adM (ad : Nat → Nat) (b n z : Nat) : Nat → Nat := fun a => if b ≤ a ∧ a ≤ b + n then z + (a - b) else ad a
theorem mS_nwMo {h : AH} {n k a : Nat} (ha : a < mN h) : mS (nwM h n k) a = mS h a := by
  show (if a = mN h then _ else if mN h < a ∧ a ≤ mN h + n then _ else mS h a) = _
  rw [if_neg (by omega), if_neg (by omega)]
theorem mI_nwMo {h : AH} {n k a : Nat} (ha : a < mN h) : mI (nwM h n k) a = mI h a := by
  funext j
  show (if mN h ≤ a ∧ a ≤ mN h + n then 0 else mI h a j) = _
  rw [if_neg (by omega)]
theorem mL_nwMo {h : AH} {n k a : Nat} (ha : a < mN h) : mL (nwM h n k) a = mL h a := by
  funext j
  show (if mN h ≤ a ∧ a ≤ mN h + n then 0 else mL h a j) = _
  rw [if_neg (by omega)]
theorem mR_nwMo {h : AH} {n k a : Nat} (ha : a < mN h) : mR (nwM h n k) a = mR h a := by
  funext j
  show (if a = mN h then _ else if mN h < a ∧ a ≤ mN h + n then 0 else mR h a j) = _
  rw [if_neg (by omega), if_neg (by omega)]
theorem wf.nwM {h : AH} (w : wf h) (n k : Nat) : wf (nwM h n k) := by
  obtain ⟨w1, w2, w3, w4, w5⟩ := w
  refine ⟨?_, fun a j => ?_, fun a ha => ?_, fun a ha => ?_, ?_⟩
  · show nZ ≤ mN h + 1 + n
    omega
  · show (if a = mN h then (if j < n then mN h + 1 + j else 0) else if mN h < a ∧ a ≤ mN h + n then 0 else mR h a j) < mN h + 1 + n
    have := w2 a j
    split
    · split <;> omega
    · split <;> omega
  · have ha' : mN h + 1 + n ≤ a := ha
    show (if a = mN h then _ else if mN h < a ∧ a ≤ mN h + n then _ else mS h a) = _
    rw [if_neg (by omega), if_neg (by omega)]
    exact w3 a (by omega)
  · rw [mS_nwMo (by omega)]
    exact w4 a ha
  · rw [mS_nwMo (show 0 < mN h by have : 64 ≤ mN h := w1; omega)]
    exact w5
theorem sameS.nwM {h : AH} (w : wf h) (n k : Nat) : sameS h (nwM h n k) := fun a ha => by
  have h1 : a < mN h := Nat.lt_of_lt_of_le ha w.1
  exact ⟨mS_nwMo h1, by rw [mI_nwMo h1], by rw [mR_nwMo h1], by rw [mL_nwMo h1]⟩
theorem ar_o (ad : Nat → Nat) (h : AH) (n k N z i : Nat) (cA : ClassId) (hz : 0 < mN h) (had : ∀ a, mN h ≤ a → a ≤ mN h + n → ad a = z + (a - mN h)) : vp_cell cA (ar_ ad (nwM h n k) (mN h) 8 n) = gO cA n z n := by
  unfold ar_
  rw [if_neg (by decide), if_neg (by decide), if_pos (by decide)]
  show arrV cA n (fun j => va_rf (rf ad (if mN h = mN h then (if j < n then mN h + 1 + j else 0) else if mN h < mN h ∧ mN h ≤ mN h + n then 0 else mR h (mN h) j))) = _
  unfold arrV gO
  congr 1
  apply Array.ext_getElem?
  intro j
  simp only [Array.getElem?_ofFn, List.getElem?_toArray, List.getElem?_map]
  by_cases hj : j < n
  · rw [dif_pos hj, List.getElem?_range hj]
    simp only [Option.map_some, if_true, hj]
    unfold rf gR
    rw [if_neg (show ¬ mN h + 1 + j = 0 by omega), if_pos hj, had _ (by omega) (by omega), show mN h + 1 + j - mN h = 1 + j by omega, show z + (1 + j) = z + 1 + j by omega]
    rfl
  · rw [dif_neg hj, List.getElem?_eq_none (by rw [List.length_range]; omega)]
    rfl
theorem ar_i (ad : Nat → Nat) (h : AH) (n k b : Nat) (comp : ClassId) (h1 : mN h < b) (h2 : b ≤ mN h + n) : vp_cell comp (ar_ ad (nwM h n k) b 0 k) = gI comp k := by
  unfold ar_
  rw [if_neg (by decide), if_neg (by decide), if_neg (by decide)]
  show arrV comp k (fun j => .int (if mN h ≤ b ∧ b ≤ mN h + n then 0 else mI h b j)) = _
  have e9 : mN h ≤ b ∧ b ≤ mN h + n := ⟨by omega, h2⟩
  simp only [if_pos e9]
  unfold gI
  rw [arrV_new]
section XM
variable {M : Mt} {lv : Nat} {K : Option Value → AH → Prop} {T : String → AH → Prop} {rc rs pc : Nat} {ls : List (Nat × Value)} {st : List Value} {h : AH}
theorem X_getstU {idx : Nat} (hl : Cond.fieldLink M.1.cls idx "jdk/internal/util/Preconditions" "SIOOBE_FORMATTER" "Ljava/util/function/BiFunction;" ∈ gw) (hd : decode M.2.1 pc = .ok (.getstatic idx, 3)) (kk : ∀ k, k = 0 ∨ k = 62 → X M lv K T rc rs (pc + 3) ls (.ref k :: st) h) : X M lv K T rc rs pc ls st h := by
  intro p l e R s m args below meth cc D tc A n0 ad0 h0 Q ad H locs cells slots la C hR hE hst hls hla hc hs eR eT
  obtain ⟨hx, hb, hml, hret, hts, hown, hlk, htab, hns, hini, hfr, hlo⟩ := id C
  obtain ⟨r1, r2, r3, r4, r5, r6, r7⟩ := id hR
  obtain ⟨k, hk, h9⟩ := r5.2.2.2.2.2.2.2.2.2.2.2.2.2
  exact va_gets hx hb h9 r4 hown (hts _ hl) (fun _ h => h) hd (kk k hk p l e R s m args below meth cc D tc A n0 ad0 h0 Q ad H locs cells slots la C hR hE (List.forall_mem_cons.mpr ⟨by have h8 : 64 ≤ mN h := r7.1; show (k : Nat) < mN h; rcases hk with rfl | rfl <;> exact Nat.lt_of_lt_of_le (by decide) h8, hst⟩) hls hla hc hs eR eT)
theorem X_ldcSW {idx j : Nat} {tx : String} {x : Nat} (hq : stl[j]? = some (M.1.cls, idx, tx, x)) (hne : x ≠ 0) {n : Nat} (hn : n = 2) (hd : decode M.2.1 pc = .ok (.ldc_w idx, 3)) (kk : X M lv K T rc rs (pc + 3) ls (.ref x :: st) h) : X M lv K T rc rs pc ls st h := by
  intro p l e R s m args below meth cc D tc A n0 ad0 h0 Q ad H locs cells slots la C hR hE hst hls hla hc hs eR eT
  obtain ⟨hx, hb, hml, hret, hts, hown, hlk, htab, hns, hini, hfr, hlo⟩ := id C
  obtain ⟨r1, r2, r3, r4, r5, r6, r7⟩ := id hR
  have hm := List.mem_of_getElem? hq
  have h9 := r5.2.2.2.2.1 _ hm
  have hz : x < nZ := (show ∀ q ∈ stl, q.2.2.2 < nZ by decide +kernel) _ hm
  have k9 := kk p l e R s m args below meth cc D tc A n0 ad0 h0 Q ad H locs cells slots la C hR hE (List.forall_mem_cons.mpr ⟨Nat.lt_of_lt_of_le hz r7.1, hst⟩) hls hla hc hs eR eT
  rw [List.map_cons, cv_ref hne] at k9
  intro T9 hT X9
  obtain ⟨t, a1, b1⟩ := k9 T9 hT X9
  exact ⟨t, X9.ldcStringW hx (own := M.1.cls) (text := tx) (index := idx) (a := ad x) hown h9.1 h9.2 (g := F0 m pc la (st.map (cv ad))) rfl (by rw [hb]; exact hd) t a1, b1⟩
theorem X_multi {idx N N2 rc' rs' : Nat} {n k : Int32} (hcl : Cond.classLink M.1.cls idx "[[I" ∈ gw) (hd : decode M.2.1 pc = .ok (.multianewarray idx 2, 4)) (hn : ¬ n < 0) (hk : ¬ k < 0) (hN : n.toNatClampNeg = N) (hK : k.toNatClampNeg = N2) (hN2 : N ≤ 1000) (hK2 : N2 ≤ 1000) (h1 : rc' + (1 + N) ≤ rc) (h2 : rs' + (N + N * N2) ≤ rs)
    (kk : X M lv K T rc' rs' (pc + 4) ls (.ref (mN h) :: st) (nwM h N N2)) : X M lv K T rc rs pc ls (.int k :: .int n :: st) h := by
  intro p l e R s m args below meth cc D tc A n0 ad0 h0 Q ad H locs cells slots la C hR hE hst hls hla hc hs eR eT
  obtain ⟨hx, hb, hml, hret, hts, hown, hlk, htab, hns, hini, hfr, hlo⟩ := id C
  obtain ⟨r1, r2, r3, r4, r5, r6, r7⟩ := id hR
  obtain ⟨comp, cA, kA, g1, g2, g3, g4⟩ := r5.2.2.2.2.2.2.2.2.2.2.2.2.1
  have t8 := r1.2 8 (tc 8, ty_ 8) rfl
  have t0 := r1.2 0 (tc 0, ty_ 0) rfl
  have e8 : cA = tc 8 := Option.some.inj (g2.symm.trans (show s.vm.findClass "[[I" = some (tc 8) from t8.2))
  have e0 : comp = tc 0 := Option.some.inj (g1.symm.trans (show s.vm.findClass "[I" = some (tc 0) from t0.2))
  obtain ⟨-, kC, hkC, c1, kC2⟩ := t0.1 0 (fun _ => .null)
  rw [List.map_cons, List.map_cons]
  refine g_W hx hb hown (hts _ hcl) g2 g3 g4 (by rw [e0]; exact hkC) kC2 hn hk hN hK hN2 hK2 rfl hd rfl r4.1 (by omega) (by omega) (fun H1 z1 o1 p1 q1 => ?_)
  have hmz : 64 ≤ mN h := r7.1
  have had : ∀ a, mN h ≤ a → a ≤ mN h + N → adM ad (mN h) N H.size a = H.size + (a - mN h) := fun a ha hb => if_pos ⟨ha, hb⟩
  have hado : ∀ a, a < mN h → adM ad (mN h) N H.size a = ad a := fun a ha => if_neg (by omega)
  have hlt : ∀ b, nZ ≤ b → b < mN h → ad b < H.size := fun b hb1 hb2 => (r2 _ _ (dyn_get (tc := tc) hb1 hb2)).lt
  have hold := r2.kept (H1 := H1) (fun k x hx => o1 x.1 ((r2 k x hx).lt))
  have hce : ∀ b, b < mN h → ce_ tc (adM ad (mN h) N H.size) (nwM h N N2) b = ce_ tc ad h b := fun b hb => ce_ext r7 hado (mS_nwMo hb) (mI_nwMo hb) (mR_nwMo hb) (mL_nwMo hb)
  have hR1 : Rel D tc A (adM ad (mN h) N H.size) (nwM h N N2) s H1 locs := by
    refine ⟨r1, fun i q hq => ?_, ⟨fun i j p q hp hq hpq => ?_, fun i q hq => ?_⟩, ⟨Nat.le_trans r4.1 (by omega), fun q g1 g2 => (o1 q (Nat.lt_of_lt_of_le g1 r4.1)).trans (r4.2.1 q g1 g2), r4.2.2⟩, r5.re r7 hado (sameS.nwM r7 N N2), r6, r7.nwM N N2⟩
    · obtain ⟨l1, rfl⟩ := dyn_at hq
      have l1' : nZ + i < mN h + 1 + N := l1
      by_cases c1 : nZ + i < mN h
      · rw [hado _ c1, hce _ c1]
        exact hold i _ (by have := dyn_get (tc := tc) (ad := ad) (h := h) (a := nZ + i) (by omega) c1; rwa [show nZ + i - nZ = i by omega] at this)
      · by_cases c2 : nZ + i = mN h
        · rw [c2, had _ (Nat.le_refl _) (by omega), show mN h - mN h = 0 by omega, ce_arr (t := 8) (n := N) (by show (if mN h = mN h then _ else _) = _; rw [if_pos rfl])]
          show H1[H.size]? = some (vp_cell (tc 8) (ar_ _ (nwM h N N2) (mN h) 8 N))
          rw [ar_o _ h N N2 N H.size 0 (tc 8) (by omega) had, p1, e8]
        · rw [had _ (by omega) (by omega), ce_arr (t := 0) (n := N2) (by show (if nZ + i = mN h then _ else if mN h < nZ + i ∧ nZ + i ≤ mN h + N then _ else _) = _; rw [if_neg c2, if_pos (by omega)])]
          show H1[H.size + (nZ + i - mN h)]? = some (vp_cell (tc 0) (ar_ _ (nwM h N N2) (nZ + i) 0 N2))
          rw [ar_i _ h N N2 (nZ + i) (tc 0) (by omega) (by omega), show H.size + (nZ + i - mN h) = H.size + 1 + (nZ + i - mN h - 1) by omega, q1 _ (by omega), e0]
    · obtain ⟨l1, rfl⟩ := dyn_at hp
      obtain ⟨l2, rfl⟩ := dyn_at hq
      have l1' : nZ + i < mN h + 1 + N := l1
      have l2' : nZ + j < mN h + 1 + N := l2
      by_cases c1 : nZ + i < mN h
      · by_cases c2 : nZ + j < mN h
        · have d1 := dyn_get (tc := tc) (ad := ad) (h := h) (a := nZ + i) (by omega) c1
          have d2 := dyn_get (tc := tc) (ad := ad) (h := h) (a := nZ + j) (by omega) c2
          rw [show nZ + i - nZ = i by omega] at d1
          rw [show nZ + j - nZ = j by omega] at d2
          refine r3.1 i j _ _ d1 d2 ?_
          have h9 : adM ad (mN h) N H.size (nZ + i) = adM ad (mN h) N H.size (nZ + j) := hpq
          rw [hado _ c1, hado _ c2] at h9
          exact h9
        · have h9 : adM ad (mN h) N H.size (nZ + i) = adM ad (mN h) N H.size (nZ + j) := hpq
          rw [hado _ c1, had _ (by omega) (by omega)] at h9
          have := hlt (nZ + i) (by omega) c1
          omega
      · by_cases c2 : nZ + j < mN h
        · have h9 : adM ad (mN h) N H.size (nZ + i) = adM ad (mN h) N H.size (nZ + j) := hpq
          rw [hado _ c2, had _ (by omega) (by omega)] at h9
          have := hlt (nZ + j) (by omega) c2
          omega
        · have h9 : adM ad (mN h) N H.size (nZ + i) = adM ad (mN h) N H.size (nZ + j) := hpq
          rw [had _ (by omega) (by omega), had _ (by omega) (by omega)] at h9
          omega
    · obtain ⟨l1, rfl⟩ := dyn_at hq
      have l1' : nZ + i < mN h + 1 + N := l1
      show A (adM ad (mN h) N H.size (nZ + i))
      by_cases c1 : nZ + i < mN h
      · rw [hado _ c1]
        have d1 := dyn_get (tc := tc) (ad := ad) (h := h) (a := nZ + i) (by omega) c1
        exact r3.2 _ _ d1
      · rw [had _ (by omega) (by omega)]
        exact r6 _ (Nat.le_trans r4.1 (by omega))
  have hle : mN h ≤ mN (nwM h N N2) := by show mN h ≤ mN h + 1 + N; omega
  have hE1 : Ext n0 ad0 h0 (adM ad (mN h) N H.size) (nwM h N N2) := ⟨Nat.le_trans hE.1 hle, fun b hb => (hado b (Nat.lt_of_lt_of_le hb hE.1)).trans (hE.2.1 b hb), hE.2.2.tr (sameS.nwM r7 N N2)⟩
  have k9 := kk p l e R s m args below meth cc D tc A n0 ad0 h0 Q (adM ad (mN h) N H.size) H1 locs (cells + 1 + N) (slots + N + N * N2) la C hR1 hE1 (List.forall_mem_cons.mpr ⟨by show mN h < mN h + 1 + N; omega, fun v hv => vok_n hle (hst v (List.mem_cons_of_mem _ (List.mem_cons_of_mem _ hv)))⟩) (fun q hq => vok_n hle (hls q hq)) (by rw [cvl_eq hado hls]; exact hla) (by omega) (by omega) eR eT
  rw [List.map_cons, cv_ref (by omega), had _ (Nat.le_refl _) (by omega), show mN h - mN h = 0 by omega, cvs_eq hado (fun v hv => hst v (List.mem_cons_of_mem _ (List.mem_cons_of_mem _ hv)))] at k9
  exact k9
end XM
/-! 'throw new NoSuchElementException("text")': its constructor calls RuntimeException's by entry 13 -/
def nsX : String := "java/util/NoSuchElementException"
def nsN : List String := ["java/lang/RuntimeException", "java/lang/Exception"]
abbrev nsB : ByteArray := prog_41_method_4_code
def nsK (w : Cond) : Bool := decide (w ≠ .code (Bundle.initS nsX) Bundle.six 2 none) && decide (w ≠ .methodLink nsX 7 (Bundle.initS "java/lang/RuntimeException"))
/-- its words: those of a throw, with the first link as it is here -/
def nsA (own : String) (ic : Nat) : List Cond := (Bundle.ownAtoms own ic nsX nsN).filter nsK
def nsF : List Cond := Bundle.passSAtoms nsX "java/lang/RuntimeException" 13 nsB
section NSC
variable {p : Program} {l : Launch} {e : Env} {R : Room} {s : State} {m : MethodId} {args : Array Value} {below : List Frame} {meth : Method} {c : Code} {T : State} {locs : List Loc} {cells slots : Nat}
set_option maxHeartbeats 4000000 in
theorem ns_ctor (X : Stand p l e R s m args below meth c T locs cells slots) (hexec : p.tables.exec = Jvm.exec) (htr : e.platform.stackTraces = false) {own : String} {ic : Nat} (hown : s.vm.findClass own = some m.cls)
    (h0 : ∀ a ∈ nsA own ic, a.before args s = true) (hF : ∀ a ∈ nsF, a.before args s = true) (hlocs : ∀ x ∈ locs, ∀ cell, s.heap[x.base]? = some cell → cell.vm.isStatics = false)
    {a : Addr} {cX : ClassId} {kX : Class} (hfX : s.vm.findClass nsX = some cX) (hkX : s.vm.classes[cX]? = some kX) (hcell : T.heap[a]? = some (freshCell cX kX)) (hnew : s.heap.size ≤ a) {msg : Value} (hmsg : msg.isRef = true)
    {g : JFrame} (hg : g.method = m) (hsize : g.locals.size = c.maxLocals) (hlocked : g.locked = none) (hentered : g.entered = []) {rest : List Value} (hstack : g.stack = msg :: .ref a :: .ref a :: rest)
    (hd6 : decode c.code g.pc = .ok (.invokespecial ic, 3)) (hd9 : decode c.code (g.pc + 3) = .ok (.athrow, 1)) (hout : ∀ x ∈ c.exceptionTable.toList, covers x (g.pc + 3) = false)
    (hRf : 5 < R.frames) (hRl : 2 * g.monitorRoom + ((Value.ref a :: rest).map fun v => v.category).sum + 81 ≤ R.locals) (hlocks : meth.locks = false) :
    ∃ U : State, Steps p.tables e below (T.setTop g) U ∧ U.status = .running ∧ Ended U below (.threw a) ∧ s.WarmedH U.vm ∧ s.sameButNew ({ U with vm := s.vm } : State) locs cells slots ∧ ∃ ce, U.heap[a]? = some ce ∧ ce.cls = cX ∧ ce.vm = .none := by
  have howns : e.platform.frameOwnsMonitors = true := by rw [X.admits.platform]
  have hfin : e.platform.finalization = false := by rw [X.admits.platform]
  have hpl : e.platform.magicAccessors = ({} : Platform).magicAccessors := by rw [X.admits.platform]
  have h : ∀ w, w ∈ Bundle.ownAtoms own ic nsX nsN → nsK w = true → w.before args s = true := fun w hw hk => h0 w (List.mem_filter.mpr ⟨hw, hk⟩)
  obtain ⟨TC, Z0, L, -, Y⟩ := ThrowableC.of_atoms (args := args) howns hfin hpl (fun x hx => h x (by simp [Bundle.ownAtoms, hx]) ((show ∀ x ∈ Bundle.throwableAtoms, nsK x = true by decide +kernel) x hx))
  obtain ⟨Z, MC, LZ, LM, hnZ⟩ := Init0T.ofS_atoms (args := args) hpl L Y (fun x hx => h x (by simp [Bundle.ownAtoms, hx]) ((show ∀ x ∈ Bundle.throwableSAtoms, nsK x = true by decide +kernel) x hx))
  obtain ⟨P1, L1, hP1m, hP1s⟩ := PassC.ofS_atoms (args := args) (s := s) hpl (X := nsX) (Y := "java/lang/RuntimeException") (index := 13) (bytes := nsB) (by decide +kernel) (by decide) (by decide +kernel) (by decide +kernel) (by decide +kernel) (by decide +kernel) hF
  obtain ⟨P2, Ps, hlen, L2, hL, hP2m, hlink1, hlink⟩ := Bundle.chainS (args := args) hpl hnZ ["java/lang/Exception"] "java/lang/RuntimeException" (by decide +kernel) (by decide +kernel) (fun x hx => h x (by
    unfold nsN Bundle.ownAtoms
    refine List.mem_append_left _ (List.mem_append_right _ ?_)
    rw [Bundle.chainSAtoms]
    exact List.mem_append_right _ hx) ((show ∀ x ∈ Bundle.chainSAtoms "java/lang/RuntimeException" ["java/lang/Exception"], nsK x = true by decide +kernel) x hx))
  have eP : P1.sup = P2.m := Option.some.inj (hP1s.symm.trans hP2m)
  have hfound : s.vm.findClass nsX = some P1.m.cls := findClass_of_methodNamed hP1m
  cases Option.some.inj (hfX.symm.trans hfound)
  have q : ∀ w, w ∈ ([.instantiable nsX 6, .selects nsX Bundle.tFill0 Bundle.tFill0, .selects nsX Bundle.tFill Bundle.tFill, .lays nsX Bundle.tN "cause" "Ljava/lang/Throwable;", .lays nsX Bundle.tN "stackTrace" Bundle.steD, .lays nsX Bundle.tN "suppressedExceptions" Bundle.listD, .lays nsX Bundle.tN "detailMessage" "Ljava/lang/String;", .isRef (.static Bundle.tN "UNASSIGNED_STACK" Bundle.steD), .isRef (.static Bundle.tN "SUPPRESSED_SENTINEL" Bundle.listD), .fieldLink Bundle.tN 198 Bundle.tN "backtrace" "Ljava/lang/Object;", .lays Bundle.tN Bundle.tN "backtrace" "Ljava/lang/Object;", .lays nsX Bundle.tN "backtrace" "Ljava/lang/Object;"] : List Cond) → w.holds args s none s [] = true := fun w hw => h w (by
    unfold Bundle.ownAtoms
    refine List.mem_append_right _ ?_
    refine List.mem_cons_of_mem _ ?_
    simp only [List.mem_cons, List.not_mem_nil, or_false] at hw ⊢
    rcases hw with rfl | rfl | rfl | rfl | rfl | rfl | rfl | rfl | rfl | rfl | rfl | rfl <;> simp) (by
    simp only [List.mem_cons, List.not_mem_nil, or_false] at hw
    rcases hw with rfl | rfl | rfl | rfl | rfl | rfl | rfl | rfl | rfl | rfl | rfl | rfl <;> decide +kernel)
  obtain ⟨c1, kX', hc1, hk, hord, -, -, hn6⟩ := Cond.instantiable_spec (q (.instantiable nsX 6) (by simp))
  cases Option.some.inj (hc1.symm.trans hfound)
  cases Option.some.inj (hkX.symm.trans hk)
  have hsel0 : selectMethod e.platform s.vm P1.m.cls TC.fill0 = .method TC.fill0 := by
    obtain ⟨c2, r2, m2, q1, q2, q3, q4, -⟩ := Cond.selects_spec (q (.selects nsX Bundle.tFill0 Bundle.tFill0) (by simp))
    cases Option.some.inj (q1.symm.trans hfound)
    cases Option.some.inj (q2.symm.trans (State.methodFound?_of_named Y.fill0 (by decide)))
    cases Option.some.inj (q3.symm.trans Y.fill0)
    rw [Launch.admits_selectMethod X.admits]
    exact q4
  have hselF : selectMethod e.platform s.vm P1.m.cls TC.fill = .method TC.fill := by
    obtain ⟨c2, r2, m2, q1, q2, q3, q4, -⟩ := Cond.selects_spec (q (.selects nsX Bundle.tFill Bundle.tFill) (by simp))
    cases Option.some.inj (q1.symm.trans hfound)
    cases Option.some.inj (q2.symm.trans (State.methodFound?_of_named Y.fill (by decide)))
    cases Option.some.inj (q3.symm.trans Y.fill)
    rw [Launch.admits_selectMethod X.admits]
    exact q4
  obtain ⟨cS, hcS, hiss⟩ := Y.statics
  obtain ⟨u0, hu0⟩ := Cond.staticRefV Y.unassigned L.unassignedStatic L.statics hcS hiss (q (.isRef (.static Bundle.tN "UNASSIGNED_STACK" Bundle.steD)) (by simp))
  obtain ⟨sen, hsen⟩ := Cond.staticRefV Y.sentinel L.sentinelStatic L.statics hcS hiss (q (.isRef (.static Bundle.tN "SUPPRESSED_SENTINEL" Bundle.listD)) (by simp))
  obtain ⟨ci8, i8, fB, hk8, hg8, ha8, hsB, -, hnB, htB, hffB⟩ := Cond.ownField (t := .object "java/lang/Object") Y.found L.cls (by decide +kernel) (q (.fieldLink Bundle.tN 198 Bundle.tN "backtrace" "Ljava/lang/Object;") (by simp)) (q (.lays Bundle.tN Bundle.tN "backtrace" "Ljava/lang/Object;") (by simp)) e.platform hpl
  obtain ⟨cS', hcS', heS, -, hkeep⟩ := X.same.2.2.2.2.2 TC.aS cS hcS
  have hcST : T.heap[TC.aS]? = some cS' := hcS'
  have hno : ∀ i, (⟨TC.aS, i⟩ : Loc) ∉ locs := fun i hm => by
    have := hlocs _ hm cS hcS
    rw [hiss] at this
    cases this
  have hknown : cS'.vm ≠ .unknown := by
    rw [heS]
    intro hu
    rw [show cS.vm = .unknown from hu] at hiss
    cases hiss
  have hne : TC.aS ≠ a := Nat.ne_of_lt (Nat.lt_of_lt_of_le (Array.getElem?_eq_some_iff.mp hcS).1 hnew)
  obtain ⟨iM, hffM⟩ := Y.msg
  obtain ⟨tyC, dC, hdC, hdnC⟩ := Cond.laysAt hfound hk Y.cause (q (.lays nsX Bundle.tN "cause" "Ljava/lang/Throwable;") (by simp))
  obtain ⟨tyS, dS, hdS, hdnS⟩ := Cond.laysAt hfound hk Y.stack (q (.lays nsX Bundle.tN "stackTrace" Bundle.steD) (by simp))
  obtain ⟨tyP, dP, hdP, hdnP⟩ := Cond.laysAt hfound hk Y.supp (q (.lays nsX Bundle.tN "suppressedExceptions" Bundle.listD) (by simp))
  obtain ⟨tyM, dM, hdM, hdnM⟩ := Cond.laysAt hfound hk hffM (q (.lays nsX Bundle.tN "detailMessage" "Ljava/lang/String;") (by simp))
  obtain ⟨tyB, dB, hdB, hdnB⟩ := Cond.laysAt hfound hk hffB (q (.lays nsX Bundle.tN "backtrace" "Ljava/lang/Object;") (by simp))
  have bC := Cond.laysApart hdB hdC hdnB hdnC (by rw [hnB, Y.causeName]; decide)
  have bS := Cond.laysApart hdB hdS hdnB hdnS (by rw [hnB, Y.stackName]; decide)
  have bP := Cond.laysApart hdB hdP hdnB hdnP (by rw [hnB, Y.suppName]; decide)
  have hskip : SkipFacts TC e.platform s (fun u => u) u0 ((preparedCellV TC.toThrowableT (freshCell P1.m.cls kX) a u0 sen).withEntry T.cur) :=
    ⟨{ ci198 := ci8, i198 := i8, fBack := fB }, ⟨hk8, hg8, ha8, hsB⟩, by
      have := fresh_default (c := P1.m.cls) tyB
      rw [htB] at this
      simpa [preparedCellV, Cell.setSlot, Cell.withEntry, Array.getElem?_setIfInBounds, bC, bS, bP, bC.symm, bS.symm, bP.symm, defaultValue] using this, fun _ _ => rfl⟩
  have hmem : ∀ w, w ∈ nsF → w.before args s = true := hF
  obtain ⟨tm, methC, cdC, kC, vm₁, hnC, -, -, -, -, -, -, -, hW₁, st1⟩ := Steps.initColdS (tb := p.tables) (e := e) (below := below) (s := s) (U := T) X.here hexec X.warmed hpl hown (t := Bundle.initS nsX) rfl rfl (by decide +kernel)
    (h (.methodLink own ic (Bundle.initS nsX)) (by unfold Bundle.ownAtoms; exact List.mem_append_right _ List.mem_cons_self) (by
      unfold nsK
      simp [Bundle.initS, nsX])) (hmem (.instanceMethod (Bundle.initS nsX)) (by simp [nsF, Bundle.passSAtoms])) (bytes := nsB) (maxL := 2) (hmem (.code (Bundle.initS nsX) nsB 2 none) (by simp [nsF, Bundle.passSAtoms]))
    (f := g) hg (a := a) (msg := msg) (rest := .ref a :: rest) hstack hd6
  cases Option.some.inj (hnC.symm.trans hP1m)
  have X₁ := X.noted hW₁
  have h13 : (P1 :: P2 :: Ps).length = 3 := by simp [hlen]
  obtain ⟨vm₂, X₂, st2⟩ := X₁.ctorMessageOffV hexec (g := { g with stack := .ref a :: rest }) hg hsize TC L Z LZ MC LM (P1 :: P2 :: Ps)
    (fun P hP => by
      rcases List.mem_cons.mp hP with rfl | hP
      · exact L1
      · rcases List.mem_cons.mp hP with rfl | hP
        · exact L2
        · exact hL P hP) ⟨eP, hlink1, hlink⟩ (u0 := u0) (sen := sen) (self := a) hmsg (cell := freshCell P1.m.cls kX) (cellS := cS')
    hcell (fun _ => by simp) (by simp) rfl rfl hsel0 hselF hcST hne hknown (by rw [hkeep _ (hno _)]; exact hu0) (by rw [hkeep _ (hno _)]; exact hsen)
    (Takes.of_laid hk hord tyC (by rw [Y.causeType]; rfl)) (Takes.of_laid hk hord tyS (by rw [Y.stackType]; exact fits_refV_array _ u0)) (Takes.of_laid hk hord tyP (by rw [Y.suppType]; exact fits_refV_object _ sen))
    (Takes.of_laid hk hord tyM (by rw [Y.msgType]; exact fits_refV_object _ ⟨msg, hmsg⟩)) Y.objLocals hskip htr [] hd6 (by rw [h13]; omega) (by rw [h13]; exact hRl)
  obtain ⟨hwalk, hrun, hended, hWU, hsame⟩ := X₂.athrowLeaves hexec (g := { g with stack := .ref a :: rest, pc := g.pc + 3 }) hg hlocked hentered hout (a := a) (rest := rest) rfl hd9 hlocks
  have hlt : a < ((T.setVm vm₁).setVm vm₂).heap.size := (Array.getElem?_eq_some_iff.mp hcell).1
  have hU := heapAt_setCell_self (s := (T.setVm vm₁).setVm vm₂) (plainBareV TC.toThrowableT (freshCell P1.m.cls kX) a u0 sen msg) hlt
  refine ⟨_, st1 _ (fun acts => ?_), hrun, hended, hWU, hsame.weaken (fun y hy hlt' => ?_) (Nat.le_refl _) (Nat.le_refl _), _, hU, rfl, rfl⟩
  · rw [doInvoke_state]
    exact st2 _ hwalk
  · rcases List.mem_append.mp hy with h1 | h1
    · exact h1
    · exfalso
      have hb : y.base = a := by
        simp only [List.mem_cons, List.not_mem_nil, or_false] at h1
        rcases h1 with rfl | rfl | rfl | rfl | rfl <;> rfl
      rw [hb] at hlt'
      exact Nat.not_lt.mpr hnew hlt'
end NSC
theorem nsF_ok : ∀ w ∈ nsF, w ∈ lw_tbl ∧ okW w = true := fun w hw => ⟨(show ∀ w ∈ nsF, w ∈ lw_tbl by decide +kernel) w hw, (show ∀ w ∈ nsF, okW w = true by decide +kernel) w hw⟩
def TN (own : String) (ik is ic : Nat) (text : String) : Prop := Cond.classLink own ik nsX ∈ gw ∧ Cond.initialized nsX ∈ gw ∧ (own, is, text) ∈ mgl ∧ ∀ w ∈ (nsA own ic).filter vx_no, w ∈ lw_tbl ∧ okW w = true
section XN
variable {M : Mt} {lv : Nat} {K : Option Value → AH → Prop} {T : String → AH → Prop} {rc rs pc : Nat} {ls : List (Nat × Value)} {st : List Value} {h : AH}
theorem X_throwN {ik is ic w : Nat} {text : String} (hw : TN M.1.cls ik is ic text) (d0 : decode M.2.1 pc = .ok (.new ik, 3)) (d3 : decode M.2.1 (pc + 3) = .ok (.dup, 1)) (d4 : (w = 0 ∧ decode M.2.1 (pc + 4) = .ok (.ldc is, 2)) ∨ (w = 1 ∧ decode M.2.1 (pc + 4) = .ok (.ldc_w is, 3))) (d6 : decode M.2.1 (pc + 6 + w) = .ok (.invokespecial ic, 3)) (d9 : decode M.2.1 (pc + 6 + w + 3) = .ok (.athrow, 1))
    (hcov : ∀ x ∈ tableOf M.2.2.2.2, covers x (pc + 6 + w + 3) = false) (hlv : 7 ≤ lv) (hwt : (st.map fun v => v.category).sum ≤ 8) (hc1 : 1 ≤ rc) (hs1 : 6 ≤ rs) (hT : T nsX h) : X M lv K T rc rs pc ls st h := by
  intro p l e R s m args below meth c D tc A n0 ad0 hh Q ad H locs cells slots la C hR hE hst hls hla hc hs eR eT
  obtain ⟨hx, hb, hml, hret, hts, hown, hlk, htab, hns, hini, hfr, hlo⟩ := id C
  obtain ⟨t3, t4, t5, t6⟩ := hw
  obtain ⟨sa, hstr⟩ := hR.2.2.2.2.1.2.2.2.2.2.1 _ t5
  have hw9 := wt_eq ad hwt
  have hS := hR.2.2.2.1
  intro T9 hT9 X
  have htr : e.platform.stackTraces = false := (show e.platform.stackTraces = l.stackTraces by rw [X.admits.platform]).trans hns
  have Y := vx_rebase X (R' := { frames := R.frames, locals := R.locals, cells := 1, slots := 6 }) (Nat.le_refl _) (Nat.le_refl _) (by show cells + 1 ≤ R.cells; omega) (by show slots + 6 ≤ R.slots; omega)
  obtain ⟨s', hA⟩ : ∃ z, z = (T9.setVm s.vm).setFrames (.invoking m args :: below) := ⟨_, rfl⟩
  rw [← hA] at Y
  have hvm : s'.vm = s.vm := by rw [hA]; rfl
  have hhp : s'.heap = H := by rw [hA]; exact hT9
  have hW0 : s.WarmedH s'.vm := by rw [hvm]; exact State.WarmedH.refl s
  have key : ∀ w, w ∈ lw_tbl → okW w = true → w.before args s' = true := fun w h1 h2 => vx_ot_at hW0 hvm.symm (okW_ot h2) (okW_at hR.2.2.2.2.1 hts h1 h2)
  have hk' : (Cond.classLink M.1.cls ik nsX).before args s' = true := vx_ot_at hW0 hvm.symm (gw_ot t3) (hts _ t3)
  have hini' : (Cond.initialized nsX).before args s' = true := vx_ot_at hW0 hvm.symm (gw_ot t4) (hts _ t4)
  have hU' : vx_Zq Bundle.tN "UNASSIGNED_STACK" Bundle.steD A s' s'.heap := by rw [hhp]; exact vx_Zq.moved hW0.alike (hR.2.2.2.2.1.2.1.kept hS.2.1)
  have hN' : vx_Zq Bundle.tN "SUPPRESSED_SENTINEL" Bundle.listD A s' s'.heap := by rw [hhp]; exact vx_Zq.moved hW0.alike (hR.2.2.2.2.1.2.2.1.kept hS.2.1)
  have h1 : ∀ w ∈ nsA M.1.cls ic, w.before args s' = true := vx_own (fun w hw => key w (t6 w hw).1 (t6 w hw).2) (vx_isRefq hU'.1) (vx_isRefq hN'.1) hU'.2.word hN'.2.word
  have h2 : ∀ w ∈ nsF, w.before args s' = true := fun w hw => key w (nsF_ok w hw).1 (nsF_ok w hw).2
  have hown' : s'.vm.findClass M.1.cls = some m.cls := by rw [hvm]; exact hown
  have hins : (Cond.instantiable nsX 6).before args s' = true := h1 _ (List.mem_filter.mpr ⟨by unfold Bundle.ownAtoms; exact List.mem_append_right _ (List.mem_cons_of_mem _ List.mem_cons_self), by decide +kernel⟩)
  obtain ⟨vm₁, cX, kX, hfX, hkX, -, -, X₁, st1⟩ := Y.newCold hx (own := M.1.cls) (C := nsX) (index := ik) (n := 6) hown' hk' hins hini' (g := F0 m pc la (st.map (cv ad))) rfl (by rw [hb]; exact d0) (Nat.le_refl _) (Nat.le_refl _)
  generalize hT1 : (T9.setVm vm₁).pushCell { cls := cX, slots := kX.instanceTypes.map defaultValue, vm := .none } = T1 at X₁ st1
  have hcat : (Value.ref T9.heap.size).category = 1 := rfl
  have hcellA : T1.heap[T9.heap.size]? = some (freshCell cX kX) := by rw [← hT1]; exact State.heap_pushCell_size _ _
  have d3' : decode c.code (pc + 3) = .ok (.dup, 1) := by rw [hb]; exact d3
  have hstr' : vk_R M.1.cls is text sa s' := vk_R.warm hW0 hstr
  obtain ⟨U, hsteps, hrun, hend, hW, hsame, ce, hce, hO1, hO2⟩ := ns_ctor X₁ hx htr (own := M.1.cls) (ic := ic) hown' h1 h2 (fun x hx => nomatch hx) hfX hkX hcellA (by rw [hhp, hT9]; exact Nat.le_refl _) (msg := .ref sa) rfl
    (g := { method := m, pc := pc + 6 + w, locals := la, stack := .ref sa :: .ref T9.heap.size :: .ref T9.heap.size :: st.map (cv ad), locked := none }) rfl (hla.1.trans hml.symm) rfl rfl (rest := st.map (cv ad)) rfl
    (by rw [hb]; exact d6) (by rw [hb]; exact d9) (by rw [htab]; exact hcov) (by show 5 < R.frames; omega) (by
      show 2 * 0 + _ + 81 ≤ R.locals
      simp only [List.map_cons, List.sum_cons, hcat]
      omega) hlk
  obtain ⟨f1, f2⟩ := vx_frame hsame
  rw [hhp] at f1 f2
  have hWs : s.WarmedH U.vm := State.WarmedH.trans hW0 hW
  have hcl : s.vm.findClass nsX = some ce.cls := by
    rw [hO1, ← hvm]
    exact hfX
  have hall : s.sameButNew ({ U with vm := s.vm } : State) locs R.cells R.slots := by
    subst hA
    obtain ⟨e1, e2⟩ := hsame
    rw [State.setFrames_setFrames] at e1
    have h2 : (T9.setVm s.vm).sameButNew ({ U with vm := s.vm } : State) [] (0 + 1) (0 + 6) := ⟨e1, e2⟩
    have h3 := X.same.trans h2
    rw [List.append_nil] at h3
    exact h3.mono (by omega) (by omega)
  have hwt9 := wt_of hR hE (t := U) f1 (fun q hq => f2 q hq (fun z hz => nomatch hz))
  refine ⟨U, ?_, eT U ⟨.threw T9.heap.size, hrun, hend, Or.inr ⟨T9.heap.size, rfl, nsX, ce, locs, ⟨⟨h, ad, hT, hwt9.1⟩, hwt9.2⟩, hce, hO2, hcl, hWs, hall, hS.2.2⟩⟩⟩
  refine st1 _ ?_
  show Steps p.tables e below (T1.setTop { method := m, pc := pc + 3, locals := la, stack := .ref T9.heap.size :: st.map (cv ad), locked := none }) _
  jvm_step X₁.here [X₁.here.top, hx, d3', Value.category]
  rcases d4 with ⟨rfl, d4⟩ | ⟨rfl, d4⟩
  · exact X₁.ldcString hx (own := M.1.cls) (text := text) (index := is) (a := sa) hown' hstr'.1 hstr'.2
      (g := { method := m, pc := pc + 4, locals := la, stack := .ref T9.heap.size :: .ref T9.heap.size :: st.map (cv ad), locked := none }) rfl (by rw [hb]; exact d4) _ hsteps
  · exact X₁.ldcStringW hx (own := M.1.cls) (text := text) (index := is) (a := sa) hown' hstr'.1 hstr'.2
      (g := { method := m, pc := pc + 4, locals := la, stack := .ref T9.heap.size :: .ref T9.heap.size :: st.map (cv ad), locked := none }) rfl (by rw [hb]; exact d4) _ hsteps
end XN
end
section
/-! ROWS THAT THIS LAW WANTS BESIDE: strings made or there before, longs, constants, an overriding method -/
section ZZ
variable {M : Mt} {lv : Nat} {K : Option Value → AH → Prop} {T : String → AH → Prop} {rc rs pc : Nat} {ls : List (Nat × Value)} {st : List Value} {h : AH}
/-- a String, one of before or one that was made -/
def isSt (h : AH) (a : Nat) : Prop := (mS h a = (20, 0) ∧ a < nZ) ∨ isO h a 7
theorem rcvSt {a : Nat} (s : isSt h a) : rcv h a RJ0 := s.elim (fun z => Or.inr ⟨z.2, Or.inl ⟨z.1, rfl⟩⟩) (fun z => rcvD z (by decide) rfl)
theorem X_getUR {idx a : Nat} (hf : FL M.1.cls idx 7 0 1) (hd : decode M.2.1 pc = .ok (.getfield idx, 3)) (hl : Cond.fieldLink M.1.cls idx "java/lang/String" "value" "[B" ∈ gw ∨ ∃ host, (M.1.cls, idx, "java/lang/String", "value", "[B", host) ∈ nfl) (hs : isSt h a) (kk : X M lv K T rc rs (pc + 3) ls (.ref (mR h a 0) :: st) h) : X M lv K T rc rs pc ls (.ref a :: st) h := by
  rcases hs with ⟨h1, h2⟩ | h1
  · exact X_getS (j := 0) (kd := 20) (c := 1) hd (by decide) rfl rfl hl h1 h2 kk
  · exact X_getR hf hd h1 kk
theorem X_getUI {idx a : Nat} (hf : FL M.1.cls idx 7 1 0) (hd : decode M.2.1 pc = .ok (.getfield idx, 3)) (hl : Cond.fieldLink M.1.cls idx "java/lang/String" "coder" "B" ∈ gw ∨ ∃ host, (M.1.cls, idx, "java/lang/String", "coder", "B", host) ∈ nfl) (hs : isSt h a) (kk : X M lv K T rc rs (pc + 3) ls (.int (mI h a 1) :: st) h) : X M lv K T rc rs pc ls (.ref a :: st) h := by
  rcases hs with ⟨h1, h2⟩ | h1
  · exact X_getS (j := 1) (kd := 20) (c := 0) hd (by decide) rfl rfl hl h1 h2 kk
  · exact X_getI hf hd h1 kk
theorem X_lmul {x y : Int64} (hd : decode M.2.1 pc = .ok (.lmul, 1)) (k : X M lv K T rc rs (pc + 1) ls (.long (x * y) :: st) h) : X M lv K T rc rs pc ls (.long y :: .long x :: st) h := by
  intro p l e R s m args below meth c D tc A n0 ad0 h0 Q ad H locs cells slots la C hR hE hst hls hla hc hs eR eT
  obtain ⟨hx, hb, hml, hret, hts, hown, hlk, htab, hns, hini, hfr, hlo⟩ := id C
  exact lv_lmul hx hb hd (k p l e R s m args below meth c D tc A n0 ad0 h0 Q ad H locs cells slots la C hR hE (List.forall_mem_cons.mpr ⟨trivial, (fun v hv => hst v (List.mem_cons_of_mem _ (List.mem_cons_of_mem _ hv)))⟩) hls hla hc hs eR eT)
theorem X_ldc2 {n : Nat} {v : Int64} (hd : decode M.2.1 pc = .ok (.ldc2_w n, 3)) (hw : Cond.constantLong M.1.cls n v ∈ gw) (k : X M lv K T rc rs (pc + 3) ls (.long v :: st) h) : X M lv K T rc rs pc ls (st) h := by
  intro p l e R s m args below meth c D tc A n0 ad0 h0 Q ad H locs cells slots la C hR hE hst hls hla hc hs eR eT
  obtain ⟨hx, hb, hml, hret, hts, hown, hlk, htab, hns, hini, hfr, hlo⟩ := id C
  exact lv_ldc2 hx hb hown (hts _ hw) hd (k p l e R s m args below meth c D tc A n0 ad0 h0 Q ad H locs cells slots la C hR hE (List.forall_mem_cons.mpr ⟨trivial, (fun v hv => hst v hv)⟩) hls hla hc hs eR eT)
theorem X_ldc2d {n : Nat} {v : UInt64} (hd : decode M.2.1 pc = .ok (.ldc2_w n, 3)) (hw : Cond.constantDouble M.1.cls n v ∈ gw) (k : X M lv K T rc rs (pc + 3) ls (.double v :: st) h) : X M lv K T rc rs pc ls (st) h := by
  intro p l e R s m args below meth c D tc A n0 ad0 h0 Q ad H locs cells slots la C hR hE hst hls hla hc hs eR eT
  obtain ⟨hx, hb, hml, hret, hts, hown, hlk, htab, hns, hini, hfr, hlo⟩ := id C
  exact lv_ldc2d hx hb hown (hts _ hw) hd (k p l e R s m args below meth c D tc A n0 ad0 h0 Q ad H locs cells slots la C hR hE (List.forall_mem_cons.mpr ⟨trivial, (fun v hv => hst v hv)⟩) hls hla hc hs eR eT)
theorem X_ldcf {n : Nat} {v : UInt32} (hd : decode M.2.1 pc = .ok (.ldc n, 2)) (hw : Cond.constantFloat M.1.cls n v ∈ gw) (k : X M lv K T rc rs (pc + 2) ls (.float v :: st) h) : X M lv K T rc rs pc ls (st) h := by
  intro p l e R s m args below meth c D tc A n0 ad0 h0 Q ad H locs cells slots la C hR hE hst hls hla hc hs eR eT
  obtain ⟨hx, hb, hml, hret, hts, hown, hlk, htab, hns, hini, hfr, hlo⟩ := id C
  exact lv_ldcf hx hb hown (hts _ hw) hd (k p l e R s m args below meth c D tc A n0 ad0 h0 Q ad H locs cells slots la C hR hE (List.forall_mem_cons.mpr ⟨trivial, (fun v hv => hst v hv)⟩) hls hla hc hs eR eT)
theorem X_copyU {idx a0 a1 n0 n1 : Nat} {sp dp n : Int32} (hd : decode M.2.1 pc = .ok (.invokestatic idx, 3)) (hl : Cond.methodLink M.1.cls idx arraycopyName ∈ gw) (hn9 : Cond.native arraycopyName ∈ gw) (hst9 : Cond.static arraycopyName ∈ gw) (hini9 : Cond.initialized "java/lang/System" ∈ gw) (hlv : 1 ≤ lv) (hwt : (st.map fun v => v.category).sum ≤ 8)
    (ho0 : mS h a0 = (103, n0)) (ho1 : mS h a1 = (103, n1)) (hz1 : nZ ≤ a1) (h1 : ¬ sp < 0) (h2 : ¬ dp < 0) (h3 : ¬ n < 0) (h4 : sp.toNatClampNeg + n.toNatClampNeg ≤ n0) (h5 : dp.toNatClampNeg + n.toNatClampNeg ≤ n1) (hfit : ∀ i, i < n.toNatClampNeg → fits .byte (.int (mI h a0 (sp.toNatClampNeg + i))) = true)
    (k : X M lv K T rc rs (pc + 3) ls st (uA h a1 (va_cpy (mI h a0) (mI h a1) sp.toNatClampNeg dp.toNatClampNeg n.toNatClampNeg))) : X M lv K T rc rs pc ls (.int n :: .int dp :: .ref a1 :: .int sp :: .ref a0 :: st) h := by
  by_cases hz : nZ ≤ a0
  · exact X_copy (t := 3) hd hl hn9 hst9 hini9 hlv hwt (Or.inr rfl) ho0 ho1 hz hz1 h1 h2 h3 h4 h5 hfit k
  intro p l e R s m args below meth c D tc A n9 ad0 h0 Q ad H locs cells slots la C hR hE hst hls hla hc hs eR eT
  obtain ⟨hx, hb, hml, hret, hts, hown, hlk, htab, hns, hini, hfr, hlo⟩ := id C
  obtain ⟨r1, r2, r3, r4, r5, r6, r7⟩ := id hR
  have hne := r7.ne0 ho0 (by decide)
  have hlt1 := r7.lt ho1 (by omega)
  have hw9 := wt_eq ad hwt
  rw [List.map_cons, List.map_cons, List.map_cons, List.map_cons, List.map_cons, cv_ref hne, cv_ref (nz_ne hz1)]
  have hX := (r5.1 a0 (Nat.lt_of_not_le hz)).2 (by rw [ho0]; exact (show (100 : Nat) ≤ 103 by decide))
  rw [ho0] at hX
  have hX : va_T .byte (ad a0) n0 (fun j => .int (mI h a0 j)) A s s.heap := hX
  have he1 := dyn_get (tc := tc) (ad := ad) hz1 hlt1
  rw [ce_arr (t := 3) ho1] at he1
  have ea : ∀ a n, ar_ ad h a 3 n = (n, .inl (mI h a)) := fun a n => rfl
  rw [ea] at he1
  have ht9 : (tys tc)[3]? = some (tc 3, ty_ 3) := rfl
  refine vk_copyt hx hb (hml.trans hla.1.symm) hown (hts _ hl) (hts _ hn9) (hts _ hst9) (hts _ hini9) r1 r2 r3 r4 hX (a1 - nZ) 3 he1 ht9 h1 h2 h3 h4 h5 hfit (by omega) (by
    have : nativeFrameWords "java/lang/System" "arraycopy" 5 ≤ 16 := by decide +kernel
    omega) hd (fun H1 locs1 hP hD hS1 => ?_)
  have hR1 : Rel D tc A ad (uA h a1 (va_cpy (mI h a0) (mI h a1) sp.toNatClampNeg dp.toNatClampNeg n.toNatClampNeg)) s H1 locs1 := hR.put hP hD hS1 (by
    rw [ce_arr (t := 3) (h := uA h a1 _) (a := a1) (n := n1) ho1]
    unfold ar_
    have e9 : ∀ f, mI (uA h a1 f) a1 = f := fun f => if_pos rfl
    rw [e9]
    rfl) rfl hz1 hlt1 (fun b hb => ce_uA hb) r7 (sameS.uA hz1 _)
  exact k p l e R s m args below meth c D tc A n9 ad0 h0 Q ad H1 locs1 cells slots la C hR1 (hE.put rfl (sameS.uA hz1 _)) (fun v hv => hst v (by simp only [List.mem_cons]; exact Or.inr (Or.inr (Or.inr (Or.inr (Or.inr hv)))))) hls hla hc hs eR eT
/-- the reference names M0, the receiver's class has M' of its own -/
def MO (own : String) (idx : Nat) (M0 M' : Mt) (n : Nat) (C : String) : Prop := MD M' n ∧ MD M0 n ∧ Cond.methodLink own idx M0.1 ∈ gw ∧ Cond.sameMethod M0.1.cls M0.1.cls M0.1.name M0.1.desc ∈ gw ∧ Cond.instanceMethod M0.1 ∈ gw ∧ cwd M0 ∈ gw ∧ Cond.selects C M0.1 M'.1 ∈ gw ∧ Cond.instanceMethod M'.1 ∈ gw ∧ cwd M' ∈ gw
theorem X_oI {M0 M' : Mt} {idx n lv' mc ms rc' rs' b : Nat} {C : String} {as stk : List Value} {Kt : Int32 → AH → Prop} (hm : MO M.1.cls idx M0 M' n C) (hd : decode M.2.1 pc = .ok (.invokevirtual idx, 3)) (hlv : lv' + 1 ≤ lv) (h1 : rc' + mc ≤ rc) (h2 : rs' + ms ≤ rs) (hn : as.length = n) (hstk : stk = as.reverse ++ .ref b :: st) (hwt : (st.map fun v => v.category).sum ≤ 8)
    (hr : rcv h b C) (hC : Cn M' (cwd M') lv' mc ms (.ref b :: as) h (KI Kt) T0) (kr : ∀ r h', Kt r h' → X M lv K T rc' rs' (pc + 3) ls (.int r :: st) h') : X M lv K T rc rs pc ls stk h := by
  subst hstk
  intro p l e R s m args below meth cc D tc A n0 ad0 h0 Q ad H locs cells slots la C9 hR hE hst hls hla hc hs eR eT
  obtain ⟨hx, hb, hml, hret, hts, hown, hlk, htab, hns, hini, hfr, hlo⟩ := id C9
  obtain ⟨⟨d1, d2, d3, d4⟩, ⟨f1, f2, f3, f4⟩, m2, m3, m5, m7, m4, m8, m6⟩ := hm
  obtain ⟨hne, hcell⟩ := rcv_cell hR hr
  have hst9 : ∀ v ∈ st, vok h v := fun v hv => hst v (List.mem_append_right _ (List.mem_cons_of_mem _ hv))
  have hav : ∀ v ∈ (.ref b :: as), vok h v := fun v hv => by
    rcases List.mem_cons.mp hv with rfl | hv
    · exact hst _ (List.mem_append_right _ List.mem_cons_self)
    · exact hst v (List.mem_append_left _ (List.mem_reverse.mpr hv))
  have e9 : ((as.reverse ++ .ref b :: st).map (cv ad)) = (as.map (cv ad)).reverse ++ .ref (ad b) :: st.map (cv ad) := by
    rw [List.map_append, List.map_cons, cv_ref hne, List.map_reverse]
  rw [e9]
  have ea : ((Value.ref b :: as).map (cv ad)) = .ref (ad b) :: as.map (cv ad) := by rw [List.map_cons, cv_ref hne]
  have hU : va_CU R s args M.1.cls C M0.1.cls idx M0.1 M'.1 M'.2.1 M'.2.2.1 M'.2.2.2.1 (cwd M' :: gw) ({ frames := lv', cells := mc, slots := ms, locals := 40 * lv' } : Room) mc ms n := by
    refine ⟨⟨rfl, rfl, by show lv' + 1 ≤ _; omega, by show 8 + (M'.2.2.1 + 11) + 40 * lv' ≤ R.locals; omega, pay_gw m6 hts, List.mem_cons_self⟩, hts _ m6, hts _ d1, f2, fun sig h => ?_, hts _ m2, hts _ m3, va_Decl.of (hts _ m5) (hts _ m7), hts _ m4, hts _ m8⟩
    have h9 : parseMethodDescriptor M0.1.desc = some sig := h
    rw [h9] at f3
    exact (Option.some.inj f3).symm
  have hrun := va_runU (e := e) (below := below) (meth := meth) (locs := locs) (cells := cells) (slots := slots) (rest := st.map (cv ad)) (g := F0 m pc la ((as.map (cv ad)).reverse ++ .ref (ad b) :: st.map (cv ad))) ⟨hx, hb, hml, hown, hts⟩ (met_of_vx (hC l hns D tc ad H.size) qx_no) hU ⟨pcn_blind D tc ad h H.size _, hcell, fun U hU hW => ⟨by rw [ea], by rw [hU], hR.enter hU hW, hav⟩⟩ rfl ((List.length_map ..).trans hn) hla.1 rfl (wt_eq ad hwt) hd ⟨by omega, by omega⟩
  exact X_after (T' := fun _ _ => False) (by omega) (by omega) (fun v h' hk => by
    obtain ⟨r, rfl, hk⟩ := hk
    exact X_room (by omega) (by omega) (kr r h' hk)) (fun _ _ z => z.elim) C9 hR hE hst9 hls hla hc hs eR eT (fun T9 hT X9 => Or.inl (hrun T9 hT X9))
end ZZ
end
section
abbrev cJord : ByteArray := prog_21_method_2_code
def yJord : MethodName := ⟨"java/lang/Enum", "ordinal", "()I"⟩
abbrev cJ0U_charAt : ByteArray := cJ0_charAt_5068e
abbrev yJ0U_charAt : MethodName := yJ0_charAt_5068e
abbrev cJ0U_coder : ByteArray := cJ0_coder_7d493
abbrev yJ0U_coder : MethodName := yJ0_coder_7d493
abbrev cJ0U_getBytes : ByteArray := cJ0_getBytes_840e7
abbrev yJ0U_getBytes : MethodName := yJ0_getBytes_840e7
abbrev cJ0U_isLatin1 : ByteArray := cJ0_isLatin1_aae02
abbrev yJ0U_isLatin1 : MethodName := yJ0_isLatin1_aae02
abbrev cJ0U_length : ByteArray := cJ0_length_8abf5
abbrev yJ0U_length : MethodName := yJ0_length_8abf5
abbrev mX4_init : Mt := (yX4_init, cX4_init, 1, none, [])
abbrev mX8_init : Mt := (yX8_init, cX8_init, 1, none, [])
abbrev mX7_init : Mt := (yX7_init, cX7_init, 2, none, [])
abbrev mX2_init : Mt := (yX2_init, cX2_init, 2, none, [])
abbrev mX6_init : Mt := (yX6_init, cX6_init, 1, none, [])
abbrev mX5_init : Mt := (yX5_init, cX5_init, 2, none, [])
abbrev mJ5_init_d00df : Mt := (yJ5_init_d00df, cJ5_init_d00df, 2, none, [])
abbrev mJ4_init_da8c8 : Mt := (yJ4_init_da8c8, cJ4_init_da8c8, 1, none, [])
abbrev mX9_init : Mt := (yX9_init, cX9_init, 1, none, [])
abbrev mX4_copyFrom : Mt := (yX4_copyFrom, cX4_copyFrom, 3, none, [])
abbrev mX8_copyFrom : Mt := (yX8_copyFrom, cX8_copyFrom, 2, none, [])
abbrev mX7_copyFrom : Mt := (yX7_copyFrom, cX7_copyFrom, 3, none, [])
abbrev mX2_keep : Mt := (yX2_keep, cX2_keep, 2, none, [])
abbrev mJ7_fill_53178 : Mt := (yJ7_fill_53178, cJ7_fill_53178, 4, none, [])
abbrev mX9_contains : Mt := (yX9_contains, cX9_contains, 2, some (.boolean), [])
abbrev mX4_nearestBlock : Mt := (yX4_nearestBlock, cX4_nearestBlock, 5, some (.int), [])
abbrev mX4_has : Mt := (yX4_has, cX4_has, 2, some (.boolean), [])
abbrev mX4_leadsTo : Mt := (yX4_leadsTo, cX4_leadsTo, 3, some (.boolean), [])
abbrev mX4_learnRoutesTo : Mt := (yX4_learnRoutesTo, cX4_learnRoutesTo, 11, none, [])
abbrev mX4_learnRoutes : Mt := (yX4_learnRoutes, cX4_learnRoutes, 2, none, [])
abbrev mX4_makeBlock : Mt := (yX4_makeBlock, cX4_makeBlock, 2, some (.int), [])
abbrev mX9_throwFor : Mt := (yX9_throwFor, cX9_throwFor, 1, none, [])
abbrev mX2_commit : Mt := (yX2_commit, cX2_commit, 1, none, [])
abbrev mX9_settle : Mt := (yX9_settle, cX9_settle, 2, some (.int), [])
abbrev mX9_addBlock : Mt := (yX9_addBlock, cX9_addBlock, 2, some (.int), [])
abbrev mX4_hasExit : Mt := (yX4_hasExit, cX4_hasExit, 2, some (.boolean), [])
abbrev mX4_makePoint : Mt := (yX4_makePoint, cX4_makePoint, 4, some (.int), [])
abbrev mX9_addPoint : Mt := (yX9_addPoint, cX9_addPoint, 4, some (.int), [])
abbrev mX4_makeLink : Mt := (yX4_makeLink, cX4_makeLink, 3, some (.int), [])
abbrev mX9_addLink : Mt := (yX9_addLink, cX9_addLink, 3, some (.int), [])
abbrev mX7_isReserved : Mt := (yX7_isReserved, cX7_isReserved, 3, some (.boolean), [])
abbrev mJ6_bitCount_0f7a4 : Mt := (yJ6_bitCount_0f7a4, cJ6_bitCount_0f7a4, 1, some (.int), [])
abbrev mX7_shutBlock : Mt := (yX7_shutBlock, cX7_shutBlock, 2, some (.int), [])
abbrev mX9_shut : Mt := (yX9_shut, cX9_shut, 2, some (.int), [])
abbrev mX7_openBlock : Mt := (yX7_openBlock, cX7_openBlock, 2, some (.int), [])
abbrev mX9_open : Mt := (yX9_open, cX9_open, 2, some (.int), [])
abbrev mX4_hasPoint : Mt := (yX4_hasPoint, cX4_hasPoint, 2, some (.boolean), [])
abbrev mX4_stemOf : Mt := (yX4_stemOf, cX4_stemOf, 2, some (.int), [])
abbrev mX8_isRouted : Mt := (yX8_isRouted, cX8_isRouted, 1, some (.boolean), [])
abbrev mX8_held : Mt := (yX8_held, cX8_held, 1, some (.int), [])
abbrev mX8_locks : Mt := (yX8_locks, cX8_locks, 2, some (.boolean), [])
abbrev mX7_lockerOf : Mt := (yX7_lockerOf, cX7_lockerOf, 4, some (.int), [])
abbrev mX4_turn : Mt := (yX4_turn, cX4_turn, 2, none, [])
abbrev mX4_pointsLeft : Mt := (yX4_pointsLeft, cX4_pointsLeft, 2, some (.boolean), [])
abbrev mX7_movePoint : Mt := (yX7_movePoint, cX7_movePoint, 2, some (.int), [])
abbrev mX9_throwPoint : Mt := (yX9_throwPoint, cX9_throwPoint, 2, some (.boolean), [])
abbrev mX7_held : Mt := (yX7_held, cX7_held, 3, some (.int), [])
abbrev mX8_begin : Mt := (yX8_begin, cX8_begin, 4, none, [])
abbrev mX7_joinQueue : Mt := (yX7_joinQueue, cX7_joinQueue, 2, none, [])
abbrev mX7_bringTrain : Mt := (yX7_bringTrain, cX7_bringTrain, 4, some (.int), [])
abbrev mX9_addTrain : Mt := (yX9_addTrain, cX9_addTrain, 3, some (.int), [])
abbrev mX7_find : Mt := (yX7_find, cX7_find, 3, some (.object "InterlockingBox$Train"), [])
abbrev mX4_routeBlocks : Mt := (yX4_routeBlocks, cX4_routeBlocks, 3, some (.int), [])
abbrev mX7_canSet : Mt := (yX7_canSet, cX7_canSet, 3, some (.boolean), [])
abbrev mX7_leaveQueue : Mt := (yX7_leaveQueue, cX7_leaveQueue, 4, none, [])
abbrev mX4_turnForRoute : Mt := (yX4_turnForRoute, cX4_turnForRoute, 6, none, [])
abbrev mX4_exitOf : Mt := (yX4_exitOf, cX4_exitOf, 2, some (.int), [])
abbrev mX4_lengthOf : Mt := (yX4_lengthOf, cX4_lengthOf, 2, some (.int), [])
abbrev mX7_reserveRoute : Mt := (yX7_reserveRoute, cX7_reserveRoute, 2, none, [])
abbrev mX4_totalLength : Mt := (yX4_totalLength, cX4_totalLength, 4, some (.int), [])
abbrev mX7_grantRoute : Mt := (yX7_grantRoute, cX7_grantRoute, 3, some (.int), [])
abbrev mX4_nextOnRoute : Mt := (yX4_nextOnRoute, cX4_nextOnRoute, 3, some (.int), [])
abbrev mX7_firstNotFree : Mt := (yX7_firstNotFree, cX7_firstNotFree, 5, some (.int), [])
abbrev mX7_stateOf : Mt := (yX7_stateOf, cX7_stateOf, 2, some (.char), [])
abbrev mX9_recordRefusal : Mt := (yX9_recordRefusal, cX9_recordRefusal, 2, none, [])
abbrev mX9_grantOrRecord : Mt := (yX9_grantOrRecord, cX9_grantOrRecord, 3, some (.int), [])
abbrev mX9_setRoute : Mt := (yX9_setRoute, cX9_setRoute, 2, some (.int), [])
abbrev mX7_withdrawRoute : Mt := (yX7_withdrawRoute, cX7_withdrawRoute, 3, some (.int), [])
abbrev mX9_releaseRoute : Mt := (yX9_releaseRoute, cX9_releaseRoute, 2, some (.int), [])
abbrev mX7_enterNext : Mt := (yX7_enterNext, cX7_enterNext, 3, none, [])
abbrev mX7_removeArrived : Mt := (yX7_removeArrived, cX7_removeArrived, 4, none, [])
abbrev mX7_considerQueue : Mt := (yX7_considerQueue, cX7_considerQueue, 4, none, [])
abbrev mX7_passMinute : Mt := (yX7_passMinute, cX7_passMinute, 2, none, [])
abbrev mX7_letPass : Mt := (yX7_letPass, cX7_letPass, 4, some (.int), [])
abbrev mX9_pass : Mt := (yX9_pass, cX9_pass, 2, some (.int), [])
abbrev mX9_blocks : Mt := (yX9_blocks, cX9_blocks, 1, some (.int), [])
abbrev mX9_checkBlock : Mt := (yX9_checkBlock, cX9_checkBlock, 2, none, [])
abbrev mX9_blockLength : Mt := (yX9_blockLength, cX9_blockLength, 2, some (.int), [])
abbrev mX9_blockState : Mt := (yX9_blockState, cX9_blockState, 2, some (.char), [])
abbrev mX7_holderOf : Mt := (yX7_holderOf, cX7_holderOf, 3, some (.int), [])
abbrev mX9_trainAt : Mt := (yX9_trainAt, cX9_trainAt, 3, some (.int), [])
abbrev mX9_checkPoint : Mt := (yX9_checkPoint, cX9_checkPoint, 2, none, [])
abbrev mX9_liesLeft : Mt := (yX9_liesLeft, cX9_liesLeft, 2, some (.boolean), [])
abbrev mX9_lockedBy : Mt := (yX9_lockedBy, cX9_lockedBy, 3, some (.int), [])
abbrev mX9_checkRoute : Mt := (yX9_checkRoute, cX9_checkRoute, 3, none, [])
abbrev mX9_routeLength : Mt := (yX9_routeLength, cX9_routeLength, 3, some (.int), [])
abbrev mX4_tryPaths : Mt := (yX4_tryPaths, cX4_tryPaths, 10, some (.int), [])
abbrev mX4_shortestPath : Mt := (yX4_shortestPath, cX4_shortestPath, 4, some (.int), [])
abbrev mX9_routeLengthByPaths : Mt := (yX9_routeLengthByPaths, cX9_routeLengthByPaths, 4, some (.int), [])
abbrev mX4_blockOnRoute : Mt := (yX4_blockOnRoute, cX4_blockOnRoute, 6, some (.int), [])
abbrev mX9_routeBlock : Mt := (yX9_routeBlock, cX9_routeBlock, 5, some (.int), [])
abbrev mX4_isStem : Mt := (yX4_isStem, cX4_isStem, 2, some (.boolean), [])
abbrev mX4_countPaths : Mt := (yX4_countPaths, cX4_countPaths, 7, some (.int), [])
abbrev mX4_numberOfPaths : Mt := (yX4_numberOfPaths, cX4_numberOfPaths, 3, some (.int), [])
abbrev mX9_paths : Mt := (yX9_paths, cX9_paths, 3, some (.int), [])
abbrev mX9_trains : Mt := (yX9_trains, cX9_trains, 1, some (.int), [])
abbrev mX9_isPresent : Mt := (yX9_isPresent, cX9_isPresent, 2, some (.boolean), [])
abbrev mX9_presentTrain : Mt := (yX9_presentTrain, cX9_presentTrain, 3, some (.object "InterlockingBox$Train"), [])
abbrev mX9_blockOf : Mt := (yX9_blockOf, cX9_blockOf, 2, some (.int), [])
abbrev mX9_destination : Mt := (yX9_destination, cX9_destination, 2, some (.int), [])
abbrev mX9_hasRoute : Mt := (yX9_hasRoute, cX9_hasRoute, 2, some (.boolean), [])
abbrev mX9_isClear : Mt := (yX9_isClear, cX9_isClear, 2, some (.boolean), [])
abbrev mX9_routedTrain : Mt := (yX9_routedTrain, cX9_routedTrain, 3, some (.object "InterlockingBox$Train"), [])
abbrev mX9_minutesUntilNext : Mt := (yX9_minutesUntilNext, cX9_minutesUntilNext, 2, some (.int), [])
abbrev mX7_minutesToGo : Mt := (yX7_minutesToGo, cX7_minutesToGo, 4, some (.int), [])
abbrev mX9_minutesUntilArrival : Mt := (yX9_minutesUntilArrival, cX9_minutesUntilArrival, 2, some (.int), [])
abbrev mX9_minutesUntilArrivalByPassing : Mt := (yX9_minutesUntilArrivalByPassing, cX9_minutesUntilArrivalByPassing, 5, some (.int), [])
abbrev mX9_delay : Mt := (yX9_delay, cX9_delay, 2, some (.int), [])
abbrev mX7_inQueue : Mt := (yX7_inQueue, cX7_inQueue, 2, some (.int), [])
abbrev mX9_queued : Mt := (yX9_queued, cX9_queued, 3, some (.int), [])
abbrev mX7_routeOf : Mt := (yX7_routeOf, cX7_routeOf, 2, some (.int), [])
abbrev mX7_waits : Mt := (yX7_waits, cX7_waits, 3, some (.boolean), [])
abbrev mX9_waitsFor : Mt := (yX9_waitsFor, cX9_waitsFor, 5, some (.boolean), [])
abbrev mX6_begin : Mt := (yX6_begin, cX6_begin, 2, none, [])
abbrev mX6_relate : Mt := (yX6_relate, cX6_relate, 3, none, [])
abbrev mX7_relateWaiting : Mt := (yX7_relateWaiting, cX7_relateWaiting, 4, none, [])
abbrev mX6_enter : Mt := (yX6_enter, cX6_enter, 2, none, [])
abbrev mX6_closeSet : Mt := (yX6_closeSet, cX6_closeSet, 4, none, [])
abbrev mX6_search : Mt := (yX6_search, cX6_search, 5, none, [])
abbrev mX6_inCircles : Mt := (yX6_inCircles, cX6_inCircles, 2, some (.int), [])
abbrev mX9_deadlocked : Mt := (yX9_deadlocked, cX9_deadlocked, 1, some (.int), [])
abbrev mX6_inCirclesByPairs : Mt := (yX6_inCirclesByPairs, cX6_inCirclesByPairs, 3, some (.int), [])
abbrev mX9_deadlockedByPairs : Mt := (yX9_deadlockedByPairs, cX9_deadlockedByPairs, 1, some (.int), [])
abbrev mX7_routesMeet : Mt := (yX7_routesMeet, cX7_routesMeet, 3, some (.boolean), [])
abbrev mX9_conflict : Mt := (yX9_conflict, cX9_conflict, 5, some (.boolean), [])
abbrev mX7_relateConflicts : Mt := (yX7_relateConflicts, cX7_relateConflicts, 4, none, [])
abbrev mX6_takeOrLeave : Mt := (yX6_takeOrLeave, cX6_takeOrLeave, 4, some (.int), [])
abbrev mX6_mostUnrelated : Mt := (yX6_mostUnrelated, cX6_mostUnrelated, 1, some (.int), [])
abbrev mX9_mostWithoutConflict : Mt := (yX9_mostWithoutConflict, cX9_mostWithoutConflict, 1, some (.int), [])
abbrev mX6_isUnrelated : Mt := (yX6_isUnrelated, cX6_isUnrelated, 3, some (.boolean), [])
abbrev mX6_mostUnrelatedBySets : Mt := (yX6_mostUnrelatedBySets, cX6_mostUnrelatedBySets, 3, some (.int), [])
abbrev mX9_mostWithoutConflictBySets : Mt := (yX9_mostWithoutConflictBySets, cX9_mostWithoutConflictBySets, 1, some (.int), [])
abbrev mX9_refusalReason : Mt := (yX9_refusalReason, cX9_refusalReason, 1, some (.char), [])
abbrev mX9_refusalBlock : Mt := (yX9_refusalBlock, cX9_refusalBlock, 1, some (.int), [])
abbrev mX9_time : Mt := (yX9_time, cX9_time, 1, some (.int), [])
abbrev mX9_arrived : Mt := (yX9_arrived, cX9_arrived, 1, some (.int), [])
abbrev mX9_totalDelay : Mt := (yX9_totalDelay, cX9_totalDelay, 1, some (.long), [])
abbrev mX9_meanDelay : Mt := (yX9_meanDelay, cX9_meanDelay, 1, some (.double), [])
abbrev mX9_usedShare : Mt := (yX9_usedShare, cX9_usedShare, 1, some (.float), [])
abbrev mX3_lineIsSound : Mt := (yX3_lineIsSound, cX3_lineIsSound, 5, some (.boolean), [])
abbrev mX3_trainsAreSound : Mt := (yX3_trainsAreSound, cX3_trainsAreSound, 7, some (.boolean), [])
abbrev mX3_blocksAreHeldOnce : Mt := (yX3_blocksAreHeldOnce, cX3_blocksAreHeldOnce, 5, some (.boolean), [])
abbrev mX3_blocksAhead : Mt := (yX3_blocksAhead, cX3_blocksAhead, 5, some (.int), [])
abbrev mX3_routesAreSound : Mt := (yX3_routesAreSound, cX3_routesAreSound, 6, some (.boolean), [])
abbrev mX3_queueIsSound : Mt := (yX3_queueIsSound, cX3_queueIsSound, 5, some (.boolean), [])
abbrev mX3_hold : Mt := (yX3_hold, cX3_hold, 1, some (.boolean), [])
abbrev mX9_isConsistent : Mt := (yX9_isConsistent, cX9_isConsistent, 1, some (.boolean), [])
abbrev mJ8_newLength_cabcc : Mt := (yJ8_newLength_cabcc, cJ8_newLength_cabcc, 4, some (.int), [])
abbrev mJ5_newCapacity_0f7a4 : Mt := (yJ5_newCapacity_0f7a4, cJ5_newCapacity_0f7a4, 6, some (.int), [])
abbrev mJ7_copyOf_9075b : Mt := (yJ7_copyOf_9075b, cJ7_copyOf_9075b, 3, some (.array .byte), [])
abbrev mJ5_ensureCapacityInternal_d00df : Mt := (yJ5_ensureCapacityInternal_d00df, cJ5_ensureCapacityInternal_d00df, 3, none, [])
abbrev mJ5_isLatin1_aae02 : Mt := (yJ5_isLatin1_aae02, cJ5_isLatin1_aae02, 1, some (.boolean), [])
abbrev mJ5_setLength_d00df : Mt := (yJ5_setLength_d00df, cJ5_setLength_d00df, 2, none, [])
abbrev mJ4_setLength_d00df : Mt := (yJ4_setLength_d00df, cJ4_setLength_d00df, 2, none, [])
abbrev mJ6_stringSize_0f7a4 : Mt := (yJ6_stringSize_0f7a4, cJ6_stringSize_0f7a4, 4, some (.int), [])
abbrev mJ6_getChars_ba4f3 : Mt := (yJ6_getChars_ba4f3, cJ6_getChars_ba4f3, 7, some (.int), [])
abbrev mJ5_append_c97b9 : Mt := (yJ5_append_c97b9, cJ5_append_c97b9, 4, some (.object "java/lang/AbstractStringBuilder"), [])
abbrev mJ4_append_bf812 : Mt := (yJ4_append_bf812, cJ4_append_bf812, 2, some (.object "java/lang/StringBuilder"), [])
abbrev mJ1_canEncode_fc78d : Mt := (yJ1_canEncode_fc78d, cJ1_canEncode_fc78d, 1, some (.boolean), [])
abbrev mJ5_append_3fe6f : Mt := (yJ5_append_3fe6f, cJ5_append_3fe6f, 2, some (.object "java/lang/AbstractStringBuilder"), [])
abbrev mJ4_append_cf468 : Mt := (yJ4_append_cf468, cJ4_append_cf468, 2, some (.object "java/lang/StringBuilder"), [])
abbrev mX9_writeRestOfRoute : Mt := (yX9_writeRestOfRoute, cX9_writeRestOfRoute, 4, none, [])
abbrev mJ5_length_8abf5 : Mt := (yJ5_length_8abf5, cJ5_length_8abf5, 1, some (.int), [])
abbrev mJ4_length_8abf5 : Mt := (yJ4_length_8abf5, cJ4_length_8abf5, 1, some (.int), [])
abbrev mX9_writeTrain : Mt := (yX9_writeTrain, cX9_writeTrain, 3, some (.int), [])
abbrev mX5_append : Mt := (yX5_append, cX5_append, 2, some (.boolean), [])
abbrev mX9_type : Mt := (yX9_type, cX9_type, 2, some (.int), [])
abbrev mJ0_coder_7d493 : Mt := (yJ0_coder_7d493, cJ0_coder_7d493, 1, some (.byte), [])
abbrev mJ0_length_8abf5 : Mt := (yJ0_length_8abf5, cJ0_length_8abf5, 1, some (.int), [])
abbrev mJ0_isLatin1_aae02 : Mt := (yJ0_isLatin1_aae02, cJ0_isLatin1_aae02, 1, some (.boolean), [])
abbrev mJ3_checkIndex_8e157 : Mt := (yJ3_checkIndex_8e157, cJ3_checkIndex_8e157, 3, some (.int), [])
abbrev mJ0_checkIndex_df160 : Mt := (yJ0_checkIndex_df160, cJ0_checkIndex_df160, 2, none, [])
abbrev mJ1_charAt_3b067 : Mt := (yJ1_charAt_3b067, cJ1_charAt_3b067, 2, some (.char), [])
abbrev mJ0_charAt_5068e : Mt := (yJ0_charAt_5068e, cJ0_charAt_5068e, 2, some (.char), [])
abbrev mX5_isDigit : Mt := (yX5_isDigit, cX5_isDigit, 2, some (.boolean), [])
abbrev mX5_digitsAt : Mt := (yX5_digitsAt, cX5_digitsAt, 5, some (.int), [])
abbrev mX5_isAt : Mt := (yX5_isAt, cX5_isAt, 3, some (.boolean), [])
abbrev mX5_noteNumber : Mt := (yX5_noteNumber, cX5_noteNumber, 6, none, [])
abbrev mX5_match : Mt := (yX5_match, cX5_match, 8, some (.int), [])
abbrev mX5_parseCommand : Mt := (yX5_parseCommand, cX5_parseCommand, 5, some (.int), [])
abbrev mX5_parse : Mt := (yX5_parse, cX5_parse, 4, some (.boolean), [])
abbrev mX5_clear : Mt := (yX5_clear, cX5_clear, 1, none, [])
abbrev mX5_number : Mt := (yX5_number, cX5_number, 4, some (.int), [])
abbrev mX5_command : Mt := (yX5_command, cX5_command, 2, some (.object "InterlockingBox$Command"), [])
abbrev mJord : Mt := (yJord, cJord, 1, some (.int), [])
abbrev mX9_execute : Mt := (yX9_execute, cX9_execute, 5, some (.int), [])
abbrev mX2_putBack : Mt := (yX2_putBack, cX2_putBack, 2, none, [])
abbrev mX9_run : Mt := (yX9_run, cX9_run, 3, some (.int), [])
abbrev mX2_takeBack : Mt := (yX2_takeBack, cX2_takeBack, 2, some (.boolean), [])
abbrev mX9_undo : Mt := (yX9_undo, cX9_undo, 1, some (.int), [])
abbrev mX9_save : Mt := (yX9_save, cX9_save, 1, some (.int), [])
abbrev mX2_forget : Mt := (yX2_forget, cX2_forget, 1, none, [])
abbrev mX9_restore : Mt := (yX9_restore, cX9_restore, 1, some (.int), [])
abbrev mL_cell : Mt := (yL_cell, cL_cell, 2, some (.int), [])
abbrev mL_pick : Mt := (yL_pick, cL_pick, 3, some (.int), [])
abbrev mL_addBlock : Mt := (yL_addBlock, cL_addBlock, 3, some (.int), [(0, 5, 6, 20), (0, 5, 10, 22)])
abbrev mL_addPoint : Mt := (yL_addPoint, cL_addPoint, 5, some (.int), [(0, 7, 8, 28), (0, 7, 13, 20), (0, 7, 18, 22)])
abbrev mL_addLink : Mt := (yL_addLink, cL_addLink, 4, some (.int), [(0, 6, 7, 28), (0, 6, 11, 20), (0, 6, 15, 22)])
abbrev mL_shut : Mt := (yL_shut, cL_shut, 3, some (.int), [(0, 5, 6, 28), (0, 5, 10, 22)])
abbrev mL_open : Mt := (yL_open, cL_open, 3, some (.int), [(0, 5, 6, 28), (0, 5, 10, 22)])
abbrev mL_throwPoint : Mt := (yL_throwPoint, cL_throwPoint, 3, some (.int), [(0, 13, 14, 28), (0, 13, 18, 22)])
abbrev mL_addTrain : Mt := (yL_addTrain, cL_addTrain, 4, some (.int), [(0, 6, 7, 28), (0, 6, 11, 20), (0, 6, 15, 22)])
abbrev mL_setRoute : Mt := (yL_setRoute, cL_setRoute, 3, some (.int), [(0, 5, 6, 50), (0, 5, 10, 22), (0, 5, 14, 52)])
abbrev mL_releaseRoute : Mt := (yL_releaseRoute, cL_releaseRoute, 3, some (.int), [(0, 5, 6, 50), (0, 5, 10, 22)])
abbrev mL_pass : Mt := (yL_pass, cL_pass, 3, some (.int), [(0, 5, 6, 20)])
abbrev mL_blockLength : Mt := (yL_blockLength, cL_blockLength, 3, some (.int), [(0, 5, 6, 28)])
abbrev mL_blockState : Mt := (yL_blockState, cL_blockState, 3, some (.int), [(0, 5, 6, 28)])
abbrev mL_trainAt : Mt := (yL_trainAt, cL_trainAt, 3, some (.int), [(0, 5, 6, 28), (0, 5, 10, 50)])
abbrev mL_liesLeft : Mt := (yL_liesLeft, cL_liesLeft, 3, some (.int), [(0, 13, 14, 28)])
abbrev mL_lockedBy : Mt := (yL_lockedBy, cL_lockedBy, 3, some (.int), [(0, 5, 6, 28), (0, 5, 10, 50)])
abbrev mL_routeLength : Mt := (yL_routeLength, cL_routeLength, 4, some (.int), [(0, 6, 7, 28), (0, 6, 11, 50)])
abbrev mL_routeLengthByPaths : Mt := (yL_routeLengthByPaths, cL_routeLengthByPaths, 4, some (.int), [(0, 6, 7, 28), (0, 6, 11, 50)])
abbrev mL_routeBlock : Mt := (yL_routeBlock, cL_routeBlock, 5, some (.int), [(0, 7, 8, 28), (0, 7, 13, 50)])
abbrev mL_paths : Mt := (yL_paths, cL_paths, 4, some (.int), [(0, 6, 7, 28)])
abbrev mL_blockOf : Mt := (yL_blockOf, cL_blockOf, 3, some (.int), [(0, 5, 6, 50)])
abbrev mL_destination : Mt := (yL_destination, cL_destination, 3, some (.int), [(0, 5, 6, 50)])
abbrev mL_hasRoute : Mt := (yL_hasRoute, cL_hasRoute, 3, some (.int), [(0, 13, 14, 50)])
abbrev mL_isClear : Mt := (yL_isClear, cL_isClear, 3, some (.int), [(0, 13, 14, 50)])
abbrev mL_minutesUntilNext : Mt := (yL_minutesUntilNext, cL_minutesUntilNext, 3, some (.int), [(0, 5, 6, 50)])
abbrev mL_minutesUntilArrival : Mt := (yL_minutesUntilArrival, cL_minutesUntilArrival, 3, some (.int), [(0, 5, 6, 50)])
abbrev mL_minutesUntilArrivalByPassing : Mt := (yL_minutesUntilArrivalByPassing, cL_minutesUntilArrivalByPassing, 3, some (.int), [(0, 5, 6, 50)])
abbrev mL_delay : Mt := (yL_delay, cL_delay, 3, some (.int), [(0, 5, 6, 50)])
abbrev mL_queued : Mt := (yL_queued, cL_queued, 3, some (.int), [(0, 5, 6, 50)])
abbrev mL_waitsFor : Mt := (yL_waitsFor, cL_waitsFor, 4, some (.int), [(0, 14, 15, 50)])
abbrev mL_conflict : Mt := (yL_conflict, cL_conflict, 4, some (.int), [(0, 14, 15, 50), (0, 14, 19, 20)])
abbrev mL_refusalReason : Mt := (yL_refusalReason, cL_refusalReason, 2, some (.int), [(0, 4, 5, 50)])
abbrev mL_refusalBlock : Mt := (yL_refusalBlock, cL_refusalBlock, 2, some (.int), [(0, 4, 5, 50)])
abbrev mL_meanDelay : Mt := (yL_meanDelay, cL_meanDelay, 2, some (.double), [(0, 4, 5, 134)])
abbrev mL_usedShare : Mt := (yL_usedShare, cL_usedShare, 2, some (.float), [(0, 4, 5, 134)])
abbrev mL_writeTrain : Mt := (yL_writeTrain, cL_writeTrain, 3, some (.int), [(0, 5, 6, 50)])
abbrev mL_type : Mt := (yL_type, cL_type, 3, some (.int), [(0, 5, 6, 22)])
abbrev mL_run : Mt := (yL_run, cL_run, 2, some (.int), [(0, 4, 5, 20), (0, 4, 9, 52)])
abbrev mL_undo : Mt := (yL_undo, cL_undo, 2, some (.int), [(0, 4, 5, 22)])
abbrev mL_restore : Mt := (yL_restore, cL_restore, 2, some (.int), [(0, 4, 5, 22)])
abbrev mJ0U_coder : Mt := (yJ0U_coder, cJ0U_coder, 1, some (.byte), [])
abbrev mJ0U_length : Mt := (yJ0U_length, cJ0U_length, 1, some (.int), [])
abbrev mJ0U_isLatin1 : Mt := (yJ0U_isLatin1, cJ0U_isLatin1, 1, some (.boolean), [])
abbrev mJ0U_charAt : Mt := (yJ0U_charAt, cJ0U_charAt, 2, some (.char), [])
abbrev mL_runs : Mt := (yL_runs, cL_runs, 4, some (.int), [])
abbrev mL_sum : Mt := (yL_sum, cL_sum, 5, some (.long), [])
abbrev mL_trainOf : Mt := (yL_trainOf, cL_trainOf, 6, some (.int), [])
abbrev mL_waiting : Mt := (yL_waiting, cL_waiting, 2, some (.int), [])
abbrev mJ5_inflateIfNeededFor_a7421 : Mt := (yJ5_inflateIfNeededFor_a7421, cJ5_inflateIfNeededFor_a7421, 2, none, [])
abbrev mJ0U_getBytes : Mt := (yJ0U_getBytes, cJ0U_getBytes, 4, none, [])
abbrev mJ5_putStringAt_47b60 : Mt := (yJ5_putStringAt_47b60, cJ5_putStringAt_47b60, 3, none, [])
abbrev mJ5_append_cf1ce : Mt := (yJ5_append_cf1ce, cJ5_append_cf1ce, 3, some (.object "java/lang/AbstractStringBuilder"), [])
abbrev mJ4_append_15ec4 : Mt := (yJ4_append_15ec4, cJ4_append_15ec4, 2, some (.object "java/lang/StringBuilder"), [])
abbrev mJ5_getValue_6d5f1 : Mt := (yJ5_getValue_6d5f1, cJ5_getValue_6d5f1, 1, some (.array .byte), [])
abbrev mJ7_checkLength_df160 : Mt := (yJ7_checkLength_df160, cJ7_checkLength_df160, 2, none, [])
abbrev mJ7_copyOfRangeByte_39247 : Mt := (yJ7_copyOfRangeByte_39247, cJ7_copyOfRangeByte_39247, 5, some (.array .byte), [])
abbrev mJ7_copyOfRange_39247 : Mt := (yJ7_copyOfRange_39247, cJ7_copyOfRange_39247, 3, some (.array .byte), [])
abbrev mJ0_init_db425 : Mt := (yJ0_init_db425, cJ0_init_db425, 5, none, [])
abbrev mJ0_init_81219 : Mt := (yJ0_init_81219, cJ0_init_81219, 2, none, [])
abbrev mJ4_toString_0e30d : Mt := (yJ4_toString_0e30d, cJ4_toString_0e30d, 1, some (.object "java/lang/String"), [])
abbrev mL_does : Mt := (yL_does, cL_does, 12, some (.int), [])
abbrev mL_isTrain : Mt := (yL_isTrain, cL_isTrain, 11, some (.boolean), [])
abbrev mL_isRoute : Mt := (yL_isRoute, cL_isRoute, 10, some (.boolean), [])
abbrev mL_isWhole : Mt := (yL_isWhole, cL_isWhole, 17, some (.boolean), [])
abbrev mL_isKept : Mt := (yL_isKept, cL_isKept, 6, some (.boolean), [])
abbrev mL_law : Mt := (yL_law, cL_law, 9, some (.boolean), [])
end
section
theorem gl_X4_3 : Cond.methodLink "InterlockingBox$Line" 3 Lib.objectInit ∈ gw := gw_of (List.mem_of_getElem? (i := 83) (by decide +kernel)) (by decide +kernel)
theorem gi_obj : Cond.instanceMethod Lib.objectInit ∈ gw := gw_of (List.mem_of_getElem? (i := 70) (by decide +kernel)) (by decide +kernel)
theorem gco_obj : Cond.code Lib.objectInit ⟨#[0xb1]⟩ 1 none ∈ gw := gw_of (List.mem_of_getElem? (i := 71) (by decide +kernel)) (by decide +kernel)
theorem us_X4 : ∀ w ∈ u_ws RX4 TX4 12, w ∈ gw := fun w hw => gw_of ((show ∀ w ∈ u_ws RX4 TX4 12, w ∈ lw_tbl by decide +kernel) w hw) ((show ∀ w ∈ u_ws RX4 TX4 12, goodWord w = true by decide +kernel) w hw)
theorem fp_X4_9 : FP "InterlockingBox$Line" 9 2 0 0 (.int) false := ⟨RX4, TX4, 12, tyX4, rfl, us_X4, by decide, rfl, by decide, Or.inl (gw_of (List.mem_of_getElem? (i := 86) (by decide +kernel)) (by decide +kernel)), tyX4_ok, nmX4, rfl, rfl, fun z => nomatch z⟩
theorem fp_X4_15 : FP "InterlockingBox$Line" 15 2 1 0 (.int) false := ⟨RX4, TX4, 12, tyX4, rfl, us_X4, by decide, rfl, by decide, Or.inl (gw_of (List.mem_of_getElem? (i := 89) (by decide +kernel)) (by decide +kernel)), tyX4_ok, nmX4, rfl, rfl, fun z => nomatch z⟩
theorem fp_X4_18 : FP "InterlockingBox$Line" 18 2 2 0 (.int) false := ⟨RX4, TX4, 12, tyX4, rfl, us_X4, by decide, rfl, by decide, Or.inl (gw_of (List.mem_of_getElem? (i := 91) (by decide +kernel)) (by decide +kernel)), tyX4_ok, nmX4, rfl, rfl, fun z => nomatch z⟩
theorem fp_X4_21 : FP "InterlockingBox$Line" 21 2 3 0 (.int) false := ⟨RX4, TX4, 12, tyX4, rfl, us_X4, by decide, rfl, by decide, Or.inl (gw_of (List.mem_of_getElem? (i := 93) (by decide +kernel)) (by decide +kernel)), tyX4_ok, nmX4, rfl, rfl, fun z => nomatch z⟩
theorem fp_X4_24 : FP "InterlockingBox$Line" 24 2 4 0 (.int) false := ⟨RX4, TX4, 12, tyX4, rfl, us_X4, by decide, rfl, by decide, Or.inl (gw_of (List.mem_of_getElem? (i := 96) (by decide +kernel)) (by decide +kernel)), tyX4_ok, nmX4, rfl, rfl, fun z => nomatch z⟩
theorem na_0 : NA 0 .int := ⟨by decide, rfl, gw_of (List.mem_of_getElem? (i := 130) (by decide +kernel)) (by decide +kernel)⟩
theorem fp_X4_27 : FP "InterlockingBox$Line" 27 2 5 1 (.array .int) true := ⟨RX4, TX4, 12, tyX4, rfl, us_X4, by decide, rfl, by decide, Or.inl (gw_of (List.mem_of_getElem? (i := 98) (by decide +kernel)) (by decide +kernel)), tyX4_ok, nmX4, rfl, rfl, fun _ => rfl⟩
theorem fp_X4_31 : FP "InterlockingBox$Line" 31 2 6 1 (.array .int) true := ⟨RX4, TX4, 12, tyX4, rfl, us_X4, by decide, rfl, by decide, Or.inl (gw_of (List.mem_of_getElem? (i := 99) (by decide +kernel)) (by decide +kernel)), tyX4_ok, nmX4, rfl, rfl, fun _ => rfl⟩
theorem fp_X4_34 : FP "InterlockingBox$Line" 34 2 7 1 (.array .int) true := ⟨RX4, TX4, 12, tyX4, rfl, us_X4, by decide, rfl, by decide, Or.inl (gw_of (List.mem_of_getElem? (i := 100) (by decide +kernel)) (by decide +kernel)), tyX4_ok, nmX4, rfl, rfl, fun _ => rfl⟩
theorem fp_X4_37 : FP "InterlockingBox$Line" 37 2 8 1 (.array .int) true := ⟨RX4, TX4, 12, tyX4, rfl, us_X4, by decide, rfl, by decide, Or.inl (gw_of (List.mem_of_getElem? (i := 101) (by decide +kernel)) (by decide +kernel)), tyX4_ok, nmX4, rfl, rfl, fun _ => rfl⟩
theorem gk_X4_40 : Cond.classLink "InterlockingBox$Line" 40 "[[I" ∈ gw := gw_of (List.mem_of_getElem? (i := 84) (by decide +kernel)) (by decide +kernel)
theorem fp_X4_42 : FP "InterlockingBox$Line" 42 2 9 1 (.array (.array .int)) true := ⟨RX4, TX4, 12, tyX4, rfl, us_X4, by decide, rfl, by decide, Or.inl (gw_of (List.mem_of_getElem? (i := 102) (by decide +kernel)) (by decide +kernel)), tyX4_ok, nmX4, rfl, rfl, fun _ => rfl⟩
theorem fp_X4_45 : FP "InterlockingBox$Line" 45 2 10 1 (.array (.array .int)) true := ⟨RX4, TX4, 12, tyX4, rfl, us_X4, by decide, rfl, by decide, Or.inl (gw_of (List.mem_of_getElem? (i := 103) (by decide +kernel)) (by decide +kernel)), tyX4_ok, nmX4, rfl, rfl, fun _ => rfl⟩
theorem fp_X4_48 : FP "InterlockingBox$Line" 48 2 11 1 (.array .int) true := ⟨RX4, TX4, 12, tyX4, rfl, us_X4, by decide, rfl, by decide, Or.inl (gw_of (List.mem_of_getElem? (i := 104) (by decide +kernel)) (by decide +kernel)), tyX4_ok, nmX4, rfl, rfl, fun _ => rfl⟩
theorem gl_X8_1 : Cond.methodLink "InterlockingBox$Train" 1 Lib.objectInit ∈ gw := gw_of (List.mem_of_getElem? (i := 137) (by decide +kernel)) (by decide +kernel)
theorem us_X8 : ∀ w ∈ u_ws RX8 TX8 6, w ∈ gw := fun w hw => gw_of ((show ∀ w ∈ u_ws RX8 TX8 6, w ∈ lw_tbl by decide +kernel) w hw) ((show ∀ w ∈ u_ws RX8 TX8 6, goodWord w = true by decide +kernel) w hw)
theorem fp_X8_7 : FP "InterlockingBox$Train" 7 6 0 0 (.int) false := ⟨RX8, TX8, 6, tyX8, rfl, us_X8, by decide, rfl, by decide, Or.inl (gw_of (List.mem_of_getElem? (i := 138) (by decide +kernel)) (by decide +kernel)), tyX8_ok, nmX8, rfl, rfl, fun z => nomatch z⟩
theorem fp_X8_13 : FP "InterlockingBox$Train" 13 6 1 0 (.int) false := ⟨RX8, TX8, 6, tyX8, rfl, us_X8, by decide, rfl, by decide, Or.inl (gw_of (List.mem_of_getElem? (i := 142) (by decide +kernel)) (by decide +kernel)), tyX8_ok, nmX8, rfl, rfl, fun z => nomatch z⟩
theorem fp_X8_16 : FP "InterlockingBox$Train" 16 6 2 0 (.int) false := ⟨RX8, TX8, 6, tyX8, rfl, us_X8, by decide, rfl, by decide, Or.inl (gw_of (List.mem_of_getElem? (i := 146) (by decide +kernel)) (by decide +kernel)), tyX8_ok, nmX8, rfl, rfl, fun z => nomatch z⟩
theorem fp_X8_19 : FP "InterlockingBox$Train" 19 6 3 0 (.int) false := ⟨RX8, TX8, 6, tyX8, rfl, us_X8, by decide, rfl, by decide, Or.inl (gw_of (List.mem_of_getElem? (i := 150) (by decide +kernel)) (by decide +kernel)), tyX8_ok, nmX8, rfl, rfl, fun z => nomatch z⟩
theorem fp_X8_22 : FP "InterlockingBox$Train" 22 6 4 0 (.int) false := ⟨RX8, TX8, 6, tyX8, rfl, us_X8, by decide, rfl, by decide, Or.inl (gw_of (List.mem_of_getElem? (i := 153) (by decide +kernel)) (by decide +kernel)), tyX8_ok, nmX8, rfl, rfl, fun z => nomatch z⟩
theorem fp_X8_25 : FP "InterlockingBox$Train" 25 6 5 0 (.int) false := ⟨RX8, TX8, 6, tyX8, rfl, us_X8, by decide, rfl, by decide, Or.inl (gw_of (List.mem_of_getElem? (i := 157) (by decide +kernel)) (by decide +kernel)), tyX8_ok, nmX8, rfl, rfl, fun z => nomatch z⟩
theorem gl_X7_3 : Cond.methodLink "InterlockingBox$State" 3 Lib.objectInit ∈ gw := gw_of (List.mem_of_getElem? (i := 77) (by decide +kernel)) (by decide +kernel)
theorem nw_X7_9 : NW "InterlockingBox$State" 9 2 12 := ⟨RX4, TX4, tyX4, rfl, us_X4, tyX4_ok, by decide +kernel, rfl, gw_of (List.mem_of_getElem? (i := 78) (by decide +kernel)) (by decide +kernel), gw_of (List.mem_of_getElem? (i := 79) (by decide +kernel)) (by decide +kernel), gw_of (List.mem_of_getElem? (i := 32) (by decide +kernel)) (by decide +kernel), by decide⟩
theorem us_X7 : ∀ w ∈ u_ws RX7 TX7 9, w ∈ gw := fun w hw => gw_of ((show ∀ w ∈ u_ws RX7 TX7 9, w ∈ lw_tbl by decide +kernel) w hw) ((show ∀ w ∈ u_ws RX7 TX7 9, goodWord w = true by decide +kernel) w hw)
theorem fp_X7_12 : FP "InterlockingBox$State" 12 5 0 1 (.object "InterlockingBox$Line") true := ⟨RX7, TX7, 9, tyX7, rfl, us_X7, by decide, rfl, by decide, Or.inl (gw_of (List.mem_of_getElem? (i := 174) (by decide +kernel)) (by decide +kernel)), tyX7_ok, nmX7, rfl, rfl, fun _ => rfl⟩
theorem gk_X7_18 : Cond.classLink "InterlockingBox$State" 18 RX8 ∈ gw := gw_of (List.mem_of_getElem? (i := 131) (by decide +kernel)) (by decide +kernel)
theorem fp_X7_20 : FP "InterlockingBox$State" 20 5 1 1 (.array (.object "InterlockingBox$Train")) true := ⟨RX7, TX7, 9, tyX7, rfl, us_X7, by decide, rfl, by decide, Or.inl (gw_of (List.mem_of_getElem? (i := 177) (by decide +kernel)) (by decide +kernel)), tyX7_ok, nmX7, rfl, rfl, fun _ => rfl⟩
theorem fp_X7_24 : FP "InterlockingBox$State" 24 5 2 1 (.array .int) true := ⟨RX7, TX7, 9, tyX7, rfl, us_X7, by decide, rfl, by decide, Or.inl (gw_of (List.mem_of_getElem? (i := 179) (by decide +kernel)) (by decide +kernel)), tyX7_ok, nmX7, rfl, rfl, fun _ => rfl⟩
theorem fp_X7_28 : FP "InterlockingBox$State" 28 5 3 0 (.int) false := ⟨RX7, TX7, 9, tyX7, rfl, us_X7, by decide, rfl, by decide, Or.inl (gw_of (List.mem_of_getElem? (i := 180) (by decide +kernel)) (by decide +kernel)), tyX7_ok, nmX7, rfl, rfl, fun z => nomatch z⟩
theorem fp_X7_32 : FP "InterlockingBox$State" 32 5 4 0 (.int) false := ⟨RX7, TX7, 9, tyX7, rfl, us_X7, by decide, rfl, by decide, Or.inl (gw_of (List.mem_of_getElem? (i := 183) (by decide +kernel)) (by decide +kernel)), tyX7_ok, nmX7, rfl, rfl, fun z => nomatch z⟩
theorem fp_X7_35 : FP "InterlockingBox$State" 35 5 5 0 (.int) false := ⟨RX7, TX7, 9, tyX7, rfl, us_X7, by decide, rfl, by decide, Or.inl (gw_of (List.mem_of_getElem? (i := 185) (by decide +kernel)) (by decide +kernel)), tyX7_ok, nmX7, rfl, rfl, fun z => nomatch z⟩
theorem fp_X7_38 : FP "InterlockingBox$State" 38 5 6 0 (.int) false := ⟨RX7, TX7, 9, tyX7, rfl, us_X7, by decide, rfl, by decide, Or.inl (gw_of (List.mem_of_getElem? (i := 188) (by decide +kernel)) (by decide +kernel)), tyX7_ok, nmX7, rfl, rfl, fun z => nomatch z⟩
theorem fp_X7_41 : FP "InterlockingBox$State" 41 5 7 0 (.int) false := ⟨RX7, TX7, 9, tyX7, rfl, us_X7, by decide, rfl, by decide, Or.inl (gw_of (List.mem_of_getElem? (i := 191) (by decide +kernel)) (by decide +kernel)), tyX7_ok, nmX7, rfl, rfl, fun z => nomatch z⟩
theorem fp_X7_44 : FP "InterlockingBox$State" 44 5 8 2 (.long) false := ⟨RX7, TX7, 9, tyX7, rfl, us_X7, by decide, rfl, by decide, Or.inl (gw_of (List.mem_of_getElem? (i := 194) (by decide +kernel)) (by decide +kernel)), tyX7_ok, nmX7, rfl, rfl, fun z => nomatch z⟩
theorem fl_X7_20 : FL "InterlockingBox$State" 20 5 1 1 := ⟨RX7, TX7, 9, rfl, us_X7, by decide, rfl, by decide, Or.inl (gw_of (List.mem_of_getElem? (i := 177) (by decide +kernel)) (by decide +kernel))⟩
theorem nw_X7_18 : NW "InterlockingBox$State" 18 6 6 := ⟨RX8, TX8, tyX8, rfl, us_X8, tyX8_ok, by decide +kernel, rfl, gw_of (List.mem_of_getElem? (i := 131) (by decide +kernel)) (by decide +kernel), gw_of (List.mem_of_getElem? (i := 133) (by decide +kernel)) (by decide +kernel), gw_of (List.mem_of_getElem? (i := 33) (by decide +kernel)) (by decide +kernel), by decide⟩
theorem md_X8_init : MD mX8_init 0 := ⟨gw_of (List.mem_of_getElem? (i := 33) (by decide +kernel)) (by decide +kernel), ⟨by decide +kernel, by decide +kernel⟩, by decide +kernel, by decide⟩
theorem mi_X7_48 : MI "InterlockingBox$State" 48 mX8_init 0 := ⟨md_X8_init, rfl, gw_of (List.mem_of_getElem? (i := 135) (by decide +kernel)) (by decide +kernel), gw_of (List.mem_of_getElem? (i := 136) (by decide +kernel)) (by decide +kernel), Or.inr ⟨"InterlockingBox", List.mem_of_getElem? (i := 5) (by decide +kernel)⟩, rfl⟩
theorem md_X4_init : MD mX4_init 0 := ⟨gw_of (List.mem_of_getElem? (i := 32) (by decide +kernel)) (by decide +kernel), ⟨by decide +kernel, by decide +kernel⟩, by decide +kernel, by decide⟩
theorem mi_X7_11 : MI "InterlockingBox$State" 11 mX4_init 0 := ⟨md_X4_init, rfl, gw_of (List.mem_of_getElem? (i := 81) (by decide +kernel)) (by decide +kernel), gw_of (List.mem_of_getElem? (i := 82) (by decide +kernel)) (by decide +kernel), Or.inr ⟨"InterlockingBox", List.mem_of_getElem? (i := 4) (by decide +kernel)⟩, rfl⟩
theorem gl_X2_3 : Cond.methodLink "InterlockingBox$History" 3 Lib.objectInit ∈ gw := gw_of (List.mem_of_getElem? (i := 221) (by decide +kernel)) (by decide +kernel)
theorem gk_X2_11 : Cond.classLink "InterlockingBox$History" 11 RX7 ∈ gw := gw_of (List.mem_of_getElem? (i := 222) (by decide +kernel)) (by decide +kernel)
theorem us_X2 : ∀ w ∈ u_ws RX2 TX2 3, w ∈ gw := fun w hw => gw_of ((show ∀ w ∈ u_ws RX2 TX2 3, w ∈ lw_tbl by decide +kernel) w hw) ((show ∀ w ∈ u_ws RX2 TX2 3, goodWord w = true by decide +kernel) w hw)
theorem fp_X2_13 : FP "InterlockingBox$History" 13 1 0 1 (.array (.object "InterlockingBox$State")) true := ⟨RX2, TX2, 3, tyX2, rfl, us_X2, by decide, rfl, by decide, Or.inl (gw_of (List.mem_of_getElem? (i := 225) (by decide +kernel)) (by decide +kernel)), tyX2_ok, nmX2, rfl, rfl, fun _ => rfl⟩
theorem fp_X2_17 : FP "InterlockingBox$History" 17 1 1 0 (.int) false := ⟨RX2, TX2, 3, tyX2, rfl, us_X2, by decide, rfl, by decide, Or.inl (gw_of (List.mem_of_getElem? (i := 226) (by decide +kernel)) (by decide +kernel)), tyX2_ok, nmX2, rfl, rfl, fun z => nomatch z⟩
theorem fp_X2_21 : FP "InterlockingBox$History" 21 1 2 0 (.int) false := ⟨RX2, TX2, 3, tyX2, rfl, us_X2, by decide, rfl, by decide, Or.inl (gw_of (List.mem_of_getElem? (i := 227) (by decide +kernel)) (by decide +kernel)), tyX2_ok, nmX2, rfl, rfl, fun z => nomatch z⟩
theorem fl_X2_13 : FL "InterlockingBox$History" 13 1 0 1 := ⟨RX2, TX2, 3, rfl, us_X2, by decide, rfl, by decide, Or.inl (gw_of (List.mem_of_getElem? (i := 225) (by decide +kernel)) (by decide +kernel))⟩
theorem nw_X2_11 : NW "InterlockingBox$History" 11 5 9 := ⟨RX7, TX7, tyX7, rfl, us_X7, tyX7_ok, by decide +kernel, rfl, gw_of (List.mem_of_getElem? (i := 222) (by decide +kernel)) (by decide +kernel), gw_of (List.mem_of_getElem? (i := 73) (by decide +kernel)) (by decide +kernel), gw_of (List.mem_of_getElem? (i := 31) (by decide +kernel)) (by decide +kernel), by decide⟩
theorem md_X7_init : MD mX7_init 0 := ⟨gw_of (List.mem_of_getElem? (i := 31) (by decide +kernel)) (by decide +kernel), ⟨by decide +kernel, by decide +kernel⟩, by decide +kernel, by decide⟩
theorem mi_X2_24 : MI "InterlockingBox$History" 24 mX7_init 0 := ⟨md_X7_init, rfl, gw_of (List.mem_of_getElem? (i := 75) (by decide +kernel)) (by decide +kernel), gw_of (List.mem_of_getElem? (i := 76) (by decide +kernel)) (by decide +kernel), Or.inl (gw_of (List.mem_of_getElem? (i := 224) (by decide +kernel)) (by decide +kernel)), rfl⟩
theorem gl_X6_3 : Cond.methodLink "InterlockingBox$Relation" 3 Lib.objectInit ∈ gw := gw_of (List.mem_of_getElem? (i := 241) (by decide +kernel)) (by decide +kernel)
theorem us_X6 : ∀ w ∈ u_ws RX6 TX6 7, w ∈ gw := fun w hw => gw_of ((show ∀ w ∈ u_ws RX6 TX6 7, w ∈ lw_tbl by decide +kernel) w hw) ((show ∀ w ∈ u_ws RX6 TX6 7, goodWord w = true by decide +kernel) w hw)
theorem fp_X6_9 : FP "InterlockingBox$Relation" 9 4 0 0 (.int) false := ⟨RX6, TX6, 7, tyX6, rfl, us_X6, by decide, rfl, by decide, Or.inl (gw_of (List.mem_of_getElem? (i := 242) (by decide +kernel)) (by decide +kernel)), tyX6_ok, nmX6, rfl, rfl, fun z => nomatch z⟩
theorem fp_X6_15 : FP "InterlockingBox$Relation" 15 4 1 1 (.array .int) true := ⟨RX6, TX6, 7, tyX6, rfl, us_X6, by decide, rfl, by decide, Or.inl (gw_of (List.mem_of_getElem? (i := 243) (by decide +kernel)) (by decide +kernel)), tyX6_ok, nmX6, rfl, rfl, fun _ => rfl⟩
theorem fp_X6_19 : FP "InterlockingBox$Relation" 19 4 2 1 (.array .int) true := ⟨RX6, TX6, 7, tyX6, rfl, us_X6, by decide, rfl, by decide, Or.inl (gw_of (List.mem_of_getElem? (i := 244) (by decide +kernel)) (by decide +kernel)), tyX6_ok, nmX6, rfl, rfl, fun _ => rfl⟩
theorem fp_X6_22 : FP "InterlockingBox$Relation" 22 4 3 1 (.array .int) true := ⟨RX6, TX6, 7, tyX6, rfl, us_X6, by decide, rfl, by decide, Or.inl (gw_of (List.mem_of_getElem? (i := 245) (by decide +kernel)) (by decide +kernel)), tyX6_ok, nmX6, rfl, rfl, fun _ => rfl⟩
theorem fp_X6_25 : FP "InterlockingBox$Relation" 25 4 4 0 (.int) false := ⟨RX6, TX6, 7, tyX6, rfl, us_X6, by decide, rfl, by decide, Or.inl (gw_of (List.mem_of_getElem? (i := 246) (by decide +kernel)) (by decide +kernel)), tyX6_ok, nmX6, rfl, rfl, fun z => nomatch z⟩
theorem fp_X6_28 : FP "InterlockingBox$Relation" 28 4 5 0 (.int) false := ⟨RX6, TX6, 7, tyX6, rfl, us_X6, by decide, rfl, by decide, Or.inl (gw_of (List.mem_of_getElem? (i := 247) (by decide +kernel)) (by decide +kernel)), tyX6_ok, nmX6, rfl, rfl, fun z => nomatch z⟩
theorem fp_X6_31 : FP "InterlockingBox$Relation" 31 4 6 0 (.int) false := ⟨RX6, TX6, 7, tyX6, rfl, us_X6, by decide, rfl, by decide, Or.inl (gw_of (List.mem_of_getElem? (i := 248) (by decide +kernel)) (by decide +kernel)), tyX6_ok, nmX6, rfl, rfl, fun z => nomatch z⟩
theorem gl_X5_3 : Cond.methodLink "InterlockingBox$Program" 3 Lib.objectInit ∈ gw := gw_of (List.mem_of_getElem? (i := 269) (by decide +kernel)) (by decide +kernel)
theorem na_4 : NA 4 .char := ⟨by decide, rfl, gw_of (List.mem_of_getElem? (i := 297) (by decide +kernel)) (by decide +kernel)⟩
theorem us_X5 : ∀ w ∈ u_ws RX5 TX5 6, w ∈ gw := fun w hw => gw_of ((show ∀ w ∈ u_ws RX5 TX5 6, w ∈ lw_tbl by decide +kernel) w hw) ((show ∀ w ∈ u_ws RX5 TX5 6, goodWord w = true by decide +kernel) w hw)
theorem fp_X5_9 : FP "InterlockingBox$Program" 9 3 0 1 (.array .char) true := ⟨RX5, TX5, 6, tyX5, rfl, us_X5, by decide, rfl, by decide, Or.inl (gw_of (List.mem_of_getElem? (i := 275) (by decide +kernel)) (by decide +kernel)), tyX5_ok, nmX5, rfl, rfl, fun _ => rfl⟩
theorem fp_X5_15 : FP "InterlockingBox$Program" 15 3 1 0 (.int) false := ⟨RX5, TX5, 6, tyX5, rfl, us_X5, by decide, rfl, by decide, Or.inl (gw_of (List.mem_of_getElem? (i := 276) (by decide +kernel)) (by decide +kernel)), tyX5_ok, nmX5, rfl, rfl, fun z => nomatch z⟩
theorem gk_X5_19 : Cond.classLink "InterlockingBox$Program" 19 RX1 ∈ gw := gw_of (List.mem_of_getElem? (i := 270) (by decide +kernel)) (by decide +kernel)
theorem fp_X5_21 : FP "InterlockingBox$Program" 21 3 2 1 (.array (.object "InterlockingBox$Command")) true := ⟨RX5, TX5, 6, tyX5, rfl, us_X5, by decide, rfl, by decide, Or.inl (gw_of (List.mem_of_getElem? (i := 278) (by decide +kernel)) (by decide +kernel)), tyX5_ok, nmX5, rfl, rfl, fun _ => rfl⟩
theorem gk_X5_25 : Cond.classLink "InterlockingBox$Program" 25 "[[I" ∈ gw := gw_of (List.mem_of_getElem? (i := 272) (by decide +kernel)) (by decide +kernel)
theorem fp_X5_27 : FP "InterlockingBox$Program" 27 3 3 1 (.array (.array .int)) true := ⟨RX5, TX5, 6, tyX5, rfl, us_X5, by decide, rfl, by decide, Or.inl (gw_of (List.mem_of_getElem? (i := 279) (by decide +kernel)) (by decide +kernel)), tyX5_ok, nmX5, rfl, rfl, fun _ => rfl⟩
theorem fp_X5_30 : FP "InterlockingBox$Program" 30 3 4 0 (.int) false := ⟨RX5, TX5, 6, tyX5, rfl, us_X5, by decide, rfl, by decide, Or.inl (gw_of (List.mem_of_getElem? (i := 280) (by decide +kernel)) (by decide +kernel)), tyX5_ok, nmX5, rfl, rfl, fun z => nomatch z⟩
theorem fp_X5_33 : FP "InterlockingBox$Program" 33 3 5 0 (.int) false := ⟨RX5, TX5, 6, tyX5, rfl, us_X5, by decide, rfl, by decide, Or.inl (gw_of (List.mem_of_getElem? (i := 282) (by decide +kernel)) (by decide +kernel)), tyX5_ok, nmX5, rfl, rfl, fun z => nomatch z⟩
theorem fl_X5_21 : FL "InterlockingBox$Program" 21 3 2 1 := ⟨RX5, TX5, 6, rfl, us_X5, by decide, rfl, by decide, Or.inl (gw_of (List.mem_of_getElem? (i := 278) (by decide +kernel)) (by decide +kernel))⟩
theorem gz_X5_36 : Cond.fieldLink "InterlockingBox$Program" 36 "InterlockingBox$Command" "WAIT" "LInterlockingBox$Command;" ∈ gw := gw_of (List.mem_of_getElem? (i := 273) (by decide +kernel)) (by decide +kernel)
theorem gl_J5_3 : Cond.methodLink "java/lang/AbstractStringBuilder" 3 Lib.objectInit ∈ gw := gw_of (List.mem_of_getElem? (i := 306) (by decide +kernel)) (by decide +kernel)
theorem gz_J5_18 : Cond.fieldLink "java/lang/AbstractStringBuilder" 18 "java/lang/String" "COMPACT_STRINGS" "Z" ∈ gw := gw_of (List.mem_of_getElem? (i := 307) (by decide +kernel)) (by decide +kernel)
theorem na_3 : NA 3 .byte := ⟨by decide, rfl, gw_of (List.mem_of_getElem? (i := 330) (by decide +kernel)) (by decide +kernel)⟩
theorem us_J4 : ∀ w ∈ u_ws RJ4 TJ4 4, w ∈ gw := fun w hw => gw_of ((show ∀ w ∈ u_ws RJ4 TJ4 4, w ∈ lw_tbl by decide +kernel) w hw) ((show ∀ w ∈ u_ws RJ4 TJ4 4, goodWord w = true by decide +kernel) w hw)
theorem fp_J5_15 : FP "java/lang/AbstractStringBuilder" 15 8 0 1 (.array .byte) false := ⟨RJ4, TJ4, 4, tyJ4, rfl, us_J4, by decide, rfl, by decide, Or.inl (gw_of (List.mem_of_getElem? (i := 316) (by decide +kernel)) (by decide +kernel)), tyJ4_ok, nmJ4, rfl, rfl, fun z => nomatch z⟩
theorem fp_J5_22 : FP "java/lang/AbstractStringBuilder" 22 8 1 0 (.byte) false := ⟨RJ4, TJ4, 4, tyJ4, rfl, us_J4, by decide, rfl, by decide, Or.inl (gw_of (List.mem_of_getElem? (i := 317) (by decide +kernel)) (by decide +kernel)), tyJ4_ok, nmJ4, rfl, rfl, fun z => nomatch z⟩
theorem md_J5_init_d00df : MD mJ5_init_d00df 1 := ⟨gw_of (List.mem_of_getElem? (i := 39) (by decide +kernel)) (by decide +kernel), ⟨by decide +kernel, by decide +kernel⟩, by decide +kernel, by decide⟩
theorem mi_J4_1 : MI "java/lang/StringBuilder" 1 mJ5_init_d00df 1 := ⟨md_J5_init_d00df, rfl, gw_of (List.mem_of_getElem? (i := 304) (by decide +kernel)) (by decide +kernel), gw_of (List.mem_of_getElem? (i := 305) (by decide +kernel)) (by decide +kernel), Or.inl (gw_of (List.mem_of_getElem? (i := 303) (by decide +kernel)) (by decide +kernel)), rfl⟩
theorem gl_X9_3 : Cond.methodLink "InterlockingBox" 3 Lib.objectInit ∈ gw := gw_of (List.mem_of_getElem? (i := 69) (by decide +kernel)) (by decide +kernel)
theorem nw_X9_9 : NW "InterlockingBox" 9 5 9 := ⟨RX7, TX7, tyX7, rfl, us_X7, tyX7_ok, by decide +kernel, rfl, gw_of (List.mem_of_getElem? (i := 72) (by decide +kernel)) (by decide +kernel), gw_of (List.mem_of_getElem? (i := 73) (by decide +kernel)) (by decide +kernel), gw_of (List.mem_of_getElem? (i := 31) (by decide +kernel)) (by decide +kernel), by decide⟩
theorem us_X9 : ∀ w ∈ u_ws RX9 TX9 12, w ∈ gw := fun w hw => gw_of ((show ∀ w ∈ u_ws RX9 TX9 12, w ∈ lw_tbl by decide +kernel) w hw) ((show ∀ w ∈ u_ws RX9 TX9 12, goodWord w = true by decide +kernel) w hw)
theorem fp_X9_12 : FP "InterlockingBox" 12 0 0 1 (.object "InterlockingBox$State") true := ⟨RX9, TX9, 12, tyX9, rfl, us_X9, by decide, rfl, by decide, Or.inl (gw_of (List.mem_of_getElem? (i := 331) (by decide +kernel)) (by decide +kernel)), tyX9_ok, nmX9, rfl, rfl, fun _ => rfl⟩
theorem fp_X9_16 : FP "InterlockingBox" 16 0 1 1 (.object "InterlockingBox$State") true := ⟨RX9, TX9, 12, tyX9, rfl, us_X9, by decide, rfl, by decide, Or.inl (gw_of (List.mem_of_getElem? (i := 332) (by decide +kernel)) (by decide +kernel)), tyX9_ok, nmX9, rfl, rfl, fun _ => rfl⟩
theorem fp_X9_19 : FP "InterlockingBox" 19 0 2 1 (.object "InterlockingBox$State") true := ⟨RX9, TX9, 12, tyX9, rfl, us_X9, by decide, rfl, by decide, Or.inl (gw_of (List.mem_of_getElem? (i := 333) (by decide +kernel)) (by decide +kernel)), tyX9_ok, nmX9, rfl, rfl, fun _ => rfl⟩
theorem nw_X9_22 : NW "InterlockingBox" 22 1 3 := ⟨RX2, TX2, tyX2, rfl, us_X2, tyX2_ok, by decide +kernel, rfl, gw_of (List.mem_of_getElem? (i := 216) (by decide +kernel)) (by decide +kernel), gw_of (List.mem_of_getElem? (i := 217) (by decide +kernel)) (by decide +kernel), gw_of (List.mem_of_getElem? (i := 34) (by decide +kernel)) (by decide +kernel), by decide⟩
theorem fp_X9_25 : FP "InterlockingBox" 25 0 3 1 (.object "InterlockingBox$History") true := ⟨RX9, TX9, 12, tyX9, rfl, us_X9, by decide, rfl, by decide, Or.inl (gw_of (List.mem_of_getElem? (i := 334) (by decide +kernel)) (by decide +kernel)), tyX9_ok, nmX9, rfl, rfl, fun _ => rfl⟩
theorem nw_X9_29 : NW "InterlockingBox" 29 4 7 := ⟨RX6, TX6, tyX6, rfl, us_X6, tyX6_ok, by decide +kernel, rfl, gw_of (List.mem_of_getElem? (i := 236) (by decide +kernel)) (by decide +kernel), gw_of (List.mem_of_getElem? (i := 237) (by decide +kernel)) (by decide +kernel), gw_of (List.mem_of_getElem? (i := 35) (by decide +kernel)) (by decide +kernel), by decide⟩
theorem fp_X9_32 : FP "InterlockingBox" 32 0 4 1 (.object "InterlockingBox$Relation") true := ⟨RX9, TX9, 12, tyX9, rfl, us_X9, by decide, rfl, by decide, Or.inl (gw_of (List.mem_of_getElem? (i := 335) (by decide +kernel)) (by decide +kernel)), tyX9_ok, nmX9, rfl, rfl, fun _ => rfl⟩
theorem nw_X9_36 : NW "InterlockingBox" 36 3 6 := ⟨RX5, TX5, tyX5, rfl, us_X5, tyX5_ok, by decide +kernel, rfl, gw_of (List.mem_of_getElem? (i := 264) (by decide +kernel)) (by decide +kernel), gw_of (List.mem_of_getElem? (i := 265) (by decide +kernel)) (by decide +kernel), gw_of (List.mem_of_getElem? (i := 36) (by decide +kernel)) (by decide +kernel), by decide⟩
theorem fp_X9_39 : FP "InterlockingBox" 39 0 5 1 (.object "InterlockingBox$Program") true := ⟨RX9, TX9, 12, tyX9, rfl, us_X9, by decide, rfl, by decide, Or.inl (gw_of (List.mem_of_getElem? (i := 336) (by decide +kernel)) (by decide +kernel)), tyX9_ok, nmX9, rfl, rfl, fun _ => rfl⟩
theorem nw_X9_43 : NW "InterlockingBox" 43 8 4 := ⟨RJ4, TJ4, tyJ4, rfl, us_J4, tyJ4_ok, by decide +kernel, rfl, gw_of (List.mem_of_getElem? (i := 298) (by decide +kernel)) (by decide +kernel), gw_of (List.mem_of_getElem? (i := 299) (by decide +kernel)) (by decide +kernel), gw_of (List.mem_of_getElem? (i := 40) (by decide +kernel)) (by decide +kernel), by decide⟩
theorem fp_X9_46 : FP "InterlockingBox" 46 0 6 1 (.object "java/lang/StringBuilder") true := ⟨RX9, TX9, 12, tyX9, rfl, us_X9, by decide, rfl, by decide, Or.inl (gw_of (List.mem_of_getElem? (i := 337) (by decide +kernel)) (by decide +kernel)), tyX9_ok, nmX9, rfl, rfl, fun _ => rfl⟩
theorem fp_X9_50 : FP "InterlockingBox" 50 0 7 0 (.boolean) false := ⟨RX9, TX9, 12, tyX9, rfl, us_X9, by decide, rfl, by decide, Or.inl (gw_of (List.mem_of_getElem? (i := 338) (by decide +kernel)) (by decide +kernel)), tyX9_ok, nmX9, rfl, rfl, fun z => nomatch z⟩
theorem fp_X9_54 : FP "InterlockingBox" 54 0 8 0 (.char) false := ⟨RX9, TX9, 12, tyX9, rfl, us_X9, by decide, rfl, by decide, Or.inl (gw_of (List.mem_of_getElem? (i := 339) (by decide +kernel)) (by decide +kernel)), tyX9_ok, nmX9, rfl, rfl, fun z => nomatch z⟩
theorem fp_X9_58 : FP "InterlockingBox" 58 0 9 0 (.int) false := ⟨RX9, TX9, 12, tyX9, rfl, us_X9, by decide, rfl, by decide, Or.inl (gw_of (List.mem_of_getElem? (i := 340) (by decide +kernel)) (by decide +kernel)), tyX9_ok, nmX9, rfl, rfl, fun z => nomatch z⟩
theorem fp_X9_62 : FP "InterlockingBox" 62 0 10 0 (.int) false := ⟨RX9, TX9, 12, tyX9, rfl, us_X9, by decide, rfl, by decide, Or.inl (gw_of (List.mem_of_getElem? (i := 341) (by decide +kernel)) (by decide +kernel)), tyX9_ok, nmX9, rfl, rfl, fun z => nomatch z⟩
theorem fp_X9_65 : FP "InterlockingBox" 65 0 11 0 (.int) false := ⟨RX9, TX9, 12, tyX9, rfl, us_X9, by decide, rfl, by decide, Or.inl (gw_of (List.mem_of_getElem? (i := 342) (by decide +kernel)) (by decide +kernel)), tyX9_ok, nmX9, rfl, rfl, fun z => nomatch z⟩
theorem md_J4_init_da8c8 : MD mJ4_init_da8c8 0 := ⟨gw_of (List.mem_of_getElem? (i := 40) (by decide +kernel)) (by decide +kernel), ⟨by decide +kernel, by decide +kernel⟩, by decide +kernel, by decide⟩
theorem mi_X9_45 : MI "InterlockingBox" 45 mJ4_init_da8c8 0 := ⟨md_J4_init_da8c8, rfl, gw_of (List.mem_of_getElem? (i := 301) (by decide +kernel)) (by decide +kernel), gw_of (List.mem_of_getElem? (i := 302) (by decide +kernel)) (by decide +kernel), Or.inl (gw_of (List.mem_of_getElem? (i := 300) (by decide +kernel)) (by decide +kernel)), rfl⟩
theorem md_X5_init : MD mX5_init 0 := ⟨gw_of (List.mem_of_getElem? (i := 36) (by decide +kernel)) (by decide +kernel), ⟨by decide +kernel, by decide +kernel⟩, by decide +kernel, by decide⟩
theorem mi_X9_38 : MI "InterlockingBox" 38 mX5_init 0 := ⟨md_X5_init, rfl, gw_of (List.mem_of_getElem? (i := 267) (by decide +kernel)) (by decide +kernel), gw_of (List.mem_of_getElem? (i := 268) (by decide +kernel)) (by decide +kernel), Or.inl (gw_of (List.mem_of_getElem? (i := 266) (by decide +kernel)) (by decide +kernel)), rfl⟩
theorem md_X6_init : MD mX6_init 0 := ⟨gw_of (List.mem_of_getElem? (i := 35) (by decide +kernel)) (by decide +kernel), ⟨by decide +kernel, by decide +kernel⟩, by decide +kernel, by decide⟩
theorem mi_X9_31 : MI "InterlockingBox" 31 mX6_init 0 := ⟨md_X6_init, rfl, gw_of (List.mem_of_getElem? (i := 239) (by decide +kernel)) (by decide +kernel), gw_of (List.mem_of_getElem? (i := 240) (by decide +kernel)) (by decide +kernel), Or.inr ⟨"InterlockingBox", List.mem_of_getElem? (i := 0) (by decide +kernel)⟩, rfl⟩
theorem md_X2_init : MD mX2_init 0 := ⟨gw_of (List.mem_of_getElem? (i := 34) (by decide +kernel)) (by decide +kernel), ⟨by decide +kernel, by decide +kernel⟩, by decide +kernel, by decide⟩
theorem mi_X9_24 : MI "InterlockingBox" 24 mX2_init 0 := ⟨md_X2_init, rfl, gw_of (List.mem_of_getElem? (i := 219) (by decide +kernel)) (by decide +kernel), gw_of (List.mem_of_getElem? (i := 220) (by decide +kernel)) (by decide +kernel), Or.inl (gw_of (List.mem_of_getElem? (i := 218) (by decide +kernel)) (by decide +kernel)), rfl⟩
theorem mi_X9_11 : MI "InterlockingBox" 11 mX7_init 0 := ⟨md_X7_init, rfl, gw_of (List.mem_of_getElem? (i := 75) (by decide +kernel)) (by decide +kernel), gw_of (List.mem_of_getElem? (i := 76) (by decide +kernel)) (by decide +kernel), Or.inl (gw_of (List.mem_of_getElem? (i := 74) (by decide +kernel)) (by decide +kernel)), rfl⟩
theorem fl_X4_9 : FL "InterlockingBox$Line" 9 2 0 0 := ⟨RX4, TX4, 12, rfl, us_X4, by decide, rfl, by decide, Or.inl (gw_of (List.mem_of_getElem? (i := 86) (by decide +kernel)) (by decide +kernel))⟩
theorem fl_X4_15 : FL "InterlockingBox$Line" 15 2 1 0 := ⟨RX4, TX4, 12, rfl, us_X4, by decide, rfl, by decide, Or.inl (gw_of (List.mem_of_getElem? (i := 89) (by decide +kernel)) (by decide +kernel))⟩
theorem fl_X4_18 : FL "InterlockingBox$Line" 18 2 2 0 := ⟨RX4, TX4, 12, rfl, us_X4, by decide, rfl, by decide, Or.inl (gw_of (List.mem_of_getElem? (i := 91) (by decide +kernel)) (by decide +kernel))⟩
theorem fl_X4_21 : FL "InterlockingBox$Line" 21 2 3 0 := ⟨RX4, TX4, 12, rfl, us_X4, by decide, rfl, by decide, Or.inl (gw_of (List.mem_of_getElem? (i := 93) (by decide +kernel)) (by decide +kernel))⟩
theorem fl_X4_24 : FL "InterlockingBox$Line" 24 2 4 0 := ⟨RX4, TX4, 12, rfl, us_X4, by decide, rfl, by decide, Or.inl (gw_of (List.mem_of_getElem? (i := 96) (by decide +kernel)) (by decide +kernel))⟩
theorem fl_X4_27 : FL "InterlockingBox$Line" 27 2 5 1 := ⟨RX4, TX4, 12, rfl, us_X4, by decide, rfl, by decide, Or.inl (gw_of (List.mem_of_getElem? (i := 98) (by decide +kernel)) (by decide +kernel))⟩
theorem gl_X4_51 : Cond.methodLink "InterlockingBox$Line" 51 arraycopyName ∈ gw := gw_of (List.mem_of_getElem? (i := 709) (by decide +kernel)) (by decide +kernel)
theorem gna_copy : Cond.native arraycopyName ∈ gw := gw_of (List.mem_of_getElem? (i := 711) (by decide +kernel)) (by decide +kernel)
theorem gst_copy : Cond.static arraycopyName ∈ gw := gw_of (List.mem_of_getElem? (i := 710) (by decide +kernel)) (by decide +kernel)
theorem gin_Sys : Cond.initialized "java/lang/System" ∈ gw := gw_of (List.mem_of_getElem? (i := 49) (by decide +kernel)) (by decide +kernel)
theorem fl_X4_31 : FL "InterlockingBox$Line" 31 2 6 1 := ⟨RX4, TX4, 12, rfl, us_X4, by decide, rfl, by decide, Or.inl (gw_of (List.mem_of_getElem? (i := 99) (by decide +kernel)) (by decide +kernel))⟩
theorem fl_X4_34 : FL "InterlockingBox$Line" 34 2 7 1 := ⟨RX4, TX4, 12, rfl, us_X4, by decide, rfl, by decide, Or.inl (gw_of (List.mem_of_getElem? (i := 100) (by decide +kernel)) (by decide +kernel))⟩
theorem fl_X4_37 : FL "InterlockingBox$Line" 37 2 8 1 := ⟨RX4, TX4, 12, rfl, us_X4, by decide, rfl, by decide, Or.inl (gw_of (List.mem_of_getElem? (i := 101) (by decide +kernel)) (by decide +kernel))⟩
theorem fl_X4_42 : FL "InterlockingBox$Line" 42 2 9 1 := ⟨RX4, TX4, 12, rfl, us_X4, by decide, rfl, by decide, Or.inl (gw_of (List.mem_of_getElem? (i := 102) (by decide +kernel)) (by decide +kernel))⟩
theorem fl_X4_45 : FL "InterlockingBox$Line" 45 2 10 1 := ⟨RX4, TX4, 12, rfl, us_X4, by decide, rfl, by decide, Or.inl (gw_of (List.mem_of_getElem? (i := 103) (by decide +kernel)) (by decide +kernel))⟩
theorem fl_X8_7 : FL "InterlockingBox$Train" 7 6 0 0 := ⟨RX8, TX8, 6, rfl, us_X8, by decide, rfl, by decide, Or.inl (gw_of (List.mem_of_getElem? (i := 138) (by decide +kernel)) (by decide +kernel))⟩
theorem fl_X8_13 : FL "InterlockingBox$Train" 13 6 1 0 := ⟨RX8, TX8, 6, rfl, us_X8, by decide, rfl, by decide, Or.inl (gw_of (List.mem_of_getElem? (i := 142) (by decide +kernel)) (by decide +kernel))⟩
theorem fl_X8_16 : FL "InterlockingBox$Train" 16 6 2 0 := ⟨RX8, TX8, 6, rfl, us_X8, by decide, rfl, by decide, Or.inl (gw_of (List.mem_of_getElem? (i := 146) (by decide +kernel)) (by decide +kernel))⟩
theorem fl_X8_19 : FL "InterlockingBox$Train" 19 6 3 0 := ⟨RX8, TX8, 6, rfl, us_X8, by decide, rfl, by decide, Or.inl (gw_of (List.mem_of_getElem? (i := 150) (by decide +kernel)) (by decide +kernel))⟩
theorem fl_X8_22 : FL "InterlockingBox$Train" 22 6 4 0 := ⟨RX8, TX8, 6, rfl, us_X8, by decide, rfl, by decide, Or.inl (gw_of (List.mem_of_getElem? (i := 153) (by decide +kernel)) (by decide +kernel))⟩
theorem fl_X8_25 : FL "InterlockingBox$Train" 25 6 5 0 := ⟨RX8, TX8, 6, rfl, us_X8, by decide, rfl, by decide, Or.inl (gw_of (List.mem_of_getElem? (i := 157) (by decide +kernel)) (by decide +kernel))⟩
theorem fl_X7_12 : FL "InterlockingBox$State" 12 5 0 1 := ⟨RX7, TX7, 9, rfl, us_X7, by decide, rfl, by decide, Or.inl (gw_of (List.mem_of_getElem? (i := 174) (by decide +kernel)) (by decide +kernel))⟩
theorem fl_X7_24 : FL "InterlockingBox$State" 24 5 2 1 := ⟨RX7, TX7, 9, rfl, us_X7, by decide, rfl, by decide, Or.inl (gw_of (List.mem_of_getElem? (i := 179) (by decide +kernel)) (by decide +kernel))⟩
theorem gl_X7_56 : Cond.methodLink "InterlockingBox$State" 56 arraycopyName ∈ gw := gw_of (List.mem_of_getElem? (i := 716) (by decide +kernel)) (by decide +kernel)
theorem fl_X7_28 : FL "InterlockingBox$State" 28 5 3 0 := ⟨RX7, TX7, 9, rfl, us_X7, by decide, rfl, by decide, Or.inl (gw_of (List.mem_of_getElem? (i := 180) (by decide +kernel)) (by decide +kernel))⟩
theorem fl_X7_32 : FL "InterlockingBox$State" 32 5 4 0 := ⟨RX7, TX7, 9, rfl, us_X7, by decide, rfl, by decide, Or.inl (gw_of (List.mem_of_getElem? (i := 183) (by decide +kernel)) (by decide +kernel))⟩
theorem fl_X7_35 : FL "InterlockingBox$State" 35 5 5 0 := ⟨RX7, TX7, 9, rfl, us_X7, by decide, rfl, by decide, Or.inl (gw_of (List.mem_of_getElem? (i := 185) (by decide +kernel)) (by decide +kernel))⟩
theorem fl_X7_38 : FL "InterlockingBox$State" 38 5 6 0 := ⟨RX7, TX7, 9, rfl, us_X7, by decide, rfl, by decide, Or.inl (gw_of (List.mem_of_getElem? (i := 188) (by decide +kernel)) (by decide +kernel))⟩
theorem fl_X7_41 : FL "InterlockingBox$State" 41 5 7 0 := ⟨RX7, TX7, 9, rfl, us_X7, by decide, rfl, by decide, Or.inl (gw_of (List.mem_of_getElem? (i := 191) (by decide +kernel)) (by decide +kernel))⟩
theorem fl_X7_44 : FL "InterlockingBox$State" 44 5 8 2 := ⟨RX7, TX7, 9, rfl, us_X7, by decide, rfl, by decide, Or.inl (gw_of (List.mem_of_getElem? (i := 194) (by decide +kernel)) (by decide +kernel))⟩
theorem md_X8_copyFrom : MD mX8_copyFrom 1 := ⟨gw_of (List.mem_of_getElem? (i := 33) (by decide +kernel)) (by decide +kernel), ⟨by decide +kernel, by decide +kernel⟩, by decide +kernel, by decide⟩
theorem mv_X7_53 : MV "InterlockingBox$State" 53 mX8_copyFrom 1 RX8 := ⟨md_X8_copyFrom, gw_of (List.mem_of_getElem? (i := 712) (by decide +kernel)) (by decide +kernel), gw_of (List.mem_of_getElem? (i := 713) (by decide +kernel)) (by decide +kernel), gw_of (List.mem_of_getElem? (i := 714) (by decide +kernel)) (by decide +kernel), gw_of (List.mem_of_getElem? (i := 715) (by decide +kernel)) (by decide +kernel)⟩
theorem md_X4_copyFrom : MD mX4_copyFrom 1 := ⟨gw_of (List.mem_of_getElem? (i := 32) (by decide +kernel)) (by decide +kernel), ⟨by decide +kernel, by decide +kernel⟩, by decide +kernel, by decide⟩
theorem mv_X7_49 : MV "InterlockingBox$State" 49 mX4_copyFrom 1 RX4 := ⟨md_X4_copyFrom, gw_of (List.mem_of_getElem? (i := 705) (by decide +kernel)) (by decide +kernel), gw_of (List.mem_of_getElem? (i := 706) (by decide +kernel)) (by decide +kernel), gw_of (List.mem_of_getElem? (i := 707) (by decide +kernel)) (by decide +kernel), gw_of (List.mem_of_getElem? (i := 708) (by decide +kernel)) (by decide +kernel)⟩
theorem fl_X2_17 : FL "InterlockingBox$History" 17 1 1 0 := ⟨RX2, TX2, 3, rfl, us_X2, by decide, rfl, by decide, Or.inl (gw_of (List.mem_of_getElem? (i := 226) (by decide +kernel)) (by decide +kernel))⟩
theorem md_X7_copyFrom : MD mX7_copyFrom 1 := ⟨gw_of (List.mem_of_getElem? (i := 31) (by decide +kernel)) (by decide +kernel), ⟨by decide +kernel, by decide +kernel⟩, by decide +kernel, by decide⟩
theorem mv_X2_25 : MV "InterlockingBox$History" 25 mX7_copyFrom 1 RX7 := ⟨md_X7_copyFrom, gw_of (List.mem_of_getElem? (i := 701) (by decide +kernel)) (by decide +kernel), gw_of (List.mem_of_getElem? (i := 702) (by decide +kernel)) (by decide +kernel), gw_of (List.mem_of_getElem? (i := 703) (by decide +kernel)) (by decide +kernel), gw_of (List.mem_of_getElem? (i := 704) (by decide +kernel)) (by decide +kernel)⟩
theorem gc_X4_88 : Cond.constant "InterlockingBox$Line" 88 (nI 1000000) ∈ gw := gw_of (List.mem_of_getElem? (i := 732) (by decide +kernel)) (by decide +kernel)
theorem fl_X4_48 : FL "InterlockingBox$Line" 48 2 11 1 := ⟨RX4, TX4, 12, rfl, us_X4, by decide, rfl, by decide, Or.inl (gw_of (List.mem_of_getElem? (i := 104) (by decide +kernel)) (by decide +kernel))⟩
theorem md_X9_contains : MD mX9_contains 2 := ⟨gw_of (List.mem_of_getElem? (i := 30) (by decide +kernel)) (by decide +kernel), ⟨by decide +kernel, by decide +kernel⟩, by decide +kernel, by decide⟩
theorem msn_X4_68 : MSN "InterlockingBox$Line" 68 mX9_contains 2 := ⟨md_X9_contains, ⟨"InterlockingBox", List.mem_of_getElem? (i := 2) (by decide +kernel)⟩, gw_of (List.mem_of_getElem? (i := 516) (by decide +kernel)) (by decide +kernel), gw_of (List.mem_of_getElem? (i := 517) (by decide +kernel)) (by decide +kernel)⟩
theorem md_X4_has : MD mX4_has 1 := ⟨gw_of (List.mem_of_getElem? (i := 32) (by decide +kernel)) (by decide +kernel), ⟨by decide +kernel, by decide +kernel⟩, by decide +kernel, by decide⟩
theorem mv_X4_57 : MV "InterlockingBox$Line" 57 mX4_has 1 RX4 := ⟨md_X4_has, gw_of (List.mem_of_getElem? (i := 546) (by decide +kernel)) (by decide +kernel), gw_of (List.mem_of_getElem? (i := 495) (by decide +kernel)) (by decide +kernel), gw_of (List.mem_of_getElem? (i := 496) (by decide +kernel)) (by decide +kernel), gw_of (List.mem_of_getElem? (i := 497) (by decide +kernel)) (by decide +kernel)⟩
theorem md_X4_leadsTo : MD mX4_leadsTo 2 := ⟨gw_of (List.mem_of_getElem? (i := 32) (by decide +kernel)) (by decide +kernel), ⟨by decide +kernel, by decide +kernel⟩, by decide +kernel, by decide⟩
theorem mv_X4_92 : MV "InterlockingBox$Line" 92 mX4_leadsTo 2 RX4 := ⟨md_X4_leadsTo, gw_of (List.mem_of_getElem? (i := 737) (by decide +kernel)) (by decide +kernel), gw_of (List.mem_of_getElem? (i := 738) (by decide +kernel)) (by decide +kernel), gw_of (List.mem_of_getElem? (i := 739) (by decide +kernel)) (by decide +kernel), gw_of (List.mem_of_getElem? (i := 740) (by decide +kernel)) (by decide +kernel)⟩
theorem md_X4_nearestBlock : MD mX4_nearestBlock 1 := ⟨gw_of (List.mem_of_getElem? (i := 32) (by decide +kernel)) (by decide +kernel), ⟨by decide +kernel, by decide +kernel⟩, by decide +kernel, by decide⟩
theorem mv_X4_89 : MV "InterlockingBox$Line" 89 mX4_nearestBlock 1 RX4 := ⟨md_X4_nearestBlock, gw_of (List.mem_of_getElem? (i := 733) (by decide +kernel)) (by decide +kernel), gw_of (List.mem_of_getElem? (i := 735) (by decide +kernel)) (by decide +kernel), gw_of (List.mem_of_getElem? (i := 7) (by decide +kernel)) (by decide +kernel), gw_of (List.mem_of_getElem? (i := 736) (by decide +kernel)) (by decide +kernel)⟩
theorem md_J7_fill_53178 : MD mJ7_fill_53178 2 := ⟨gw_of (List.mem_of_getElem? (i := 50) (by decide +kernel)) (by decide +kernel), ⟨by decide +kernel, by decide +kernel⟩, by decide +kernel, by decide⟩
theorem ms_X4_82 : MS "InterlockingBox$Line" 82 mJ7_fill_53178 2 := ⟨md_J7_fill_53178, gw_of (List.mem_of_getElem? (i := 729) (by decide +kernel)) (by decide +kernel), gw_of (List.mem_of_getElem? (i := 730) (by decide +kernel)) (by decide +kernel), gw_of (List.mem_of_getElem? (i := 731) (by decide +kernel)) (by decide +kernel)⟩
theorem md_X4_learnRoutesTo : MD mX4_learnRoutesTo 1 := ⟨gw_of (List.mem_of_getElem? (i := 32) (by decide +kernel)) (by decide +kernel), ⟨by decide +kernel, by decide +kernel⟩, by decide +kernel, by decide⟩
theorem mv_X4_78 : MV "InterlockingBox$Line" 78 mX4_learnRoutesTo 1 RX4 := ⟨md_X4_learnRoutesTo, gw_of (List.mem_of_getElem? (i := 725) (by decide +kernel)) (by decide +kernel), gw_of (List.mem_of_getElem? (i := 727) (by decide +kernel)) (by decide +kernel), gw_of (List.mem_of_getElem? (i := 6) (by decide +kernel)) (by decide +kernel), gw_of (List.mem_of_getElem? (i := 728) (by decide +kernel)) (by decide +kernel)⟩
theorem md_X4_learnRoutes : MD mX4_learnRoutes 0 := ⟨gw_of (List.mem_of_getElem? (i := 32) (by decide +kernel)) (by decide +kernel), ⟨by decide +kernel, by decide +kernel⟩, by decide +kernel, by decide⟩
theorem mv_X4_72 : MV "InterlockingBox$Line" 72 mX4_learnRoutes 0 RX4 := ⟨md_X4_learnRoutes, gw_of (List.mem_of_getElem? (i := 721) (by decide +kernel)) (by decide +kernel), gw_of (List.mem_of_getElem? (i := 723) (by decide +kernel)) (by decide +kernel), gw_of (List.mem_of_getElem? (i := 5) (by decide +kernel)) (by decide +kernel), gw_of (List.mem_of_getElem? (i := 724) (by decide +kernel)) (by decide +kernel)⟩
theorem tw_X9_324_385 : TW "InterlockingBox" 324 385 328 "java/lang/IllegalStateException" "not in this state" ["java/lang/RuntimeException", "java/lang/Exception"] := ⟨by decide +kernel, by decide +kernel, gw_of (List.mem_of_getElem? (i := 781) (by decide +kernel)) (by decide +kernel), gw_of (List.mem_of_getElem? (i := 53) (by decide +kernel)) (by decide +kernel), List.mem_of_getElem? (i := 10) rfl, fun w hw => ⟨(show ∀ w ∈ vx_atS "InterlockingBox" 328 "java/lang/IllegalStateException" ["java/lang/RuntimeException", "java/lang/Exception"], w ∈ lw_tbl by decide +kernel) w hw, (show ∀ w ∈ vx_atS "InterlockingBox" 328 "java/lang/IllegalStateException" ["java/lang/RuntimeException", "java/lang/Exception"], okW w = true by decide +kernel) w hw⟩⟩
theorem tw_X9_351_383 : TW "InterlockingBox" 351 383 355 "java/lang/UnsupportedOperationException" "the route cannot be set" ["java/lang/RuntimeException", "java/lang/Exception"] := ⟨by decide +kernel, by decide +kernel, gw_of (List.mem_of_getElem? (i := 765) (by decide +kernel)) (by decide +kernel), gw_of (List.mem_of_getElem? (i := 52) (by decide +kernel)) (by decide +kernel), List.mem_of_getElem? (i := 9) rfl, fun w hw => ⟨(show ∀ w ∈ vx_atS "InterlockingBox" 355 "java/lang/UnsupportedOperationException" ["java/lang/RuntimeException", "java/lang/Exception"], w ∈ lw_tbl by decide +kernel) w hw, (show ∀ w ∈ vx_atS "InterlockingBox" 355 "java/lang/UnsupportedOperationException" ["java/lang/RuntimeException", "java/lang/Exception"], okW w = true by decide +kernel) w hw⟩⟩
theorem tn_X9_131_381 : TN "InterlockingBox" 131 381 135 "no such train" := ⟨gw_of (List.mem_of_getElem? (i := 547) (by decide +kernel)) (by decide +kernel), gw_of (List.mem_of_getElem? (i := 48) (by decide +kernel)) (by decide +kernel), List.mem_of_getElem? (i := 2) rfl, fun w hw => ⟨(show ∀ w ∈ (nsA "InterlockingBox" 135).filter vx_no, w ∈ lw_tbl by decide +kernel) w hw, (show ∀ w ∈ (nsA "InterlockingBox" 135).filter vx_no, okW w = true by decide +kernel) w hw⟩⟩
theorem tw_X9_244_379 : TW "InterlockingBox" 244 379 248 "java/lang/IllegalArgumentException" "out of range, or not different" ["java/lang/RuntimeException", "java/lang/Exception"] := ⟨by decide +kernel, by decide +kernel, gw_of (List.mem_of_getElem? (i := 749) (by decide +kernel)) (by decide +kernel), gw_of (List.mem_of_getElem? (i := 51) (by decide +kernel)) (by decide +kernel), List.mem_of_getElem? (i := 8) rfl, fun w hw => ⟨(show ∀ w ∈ vx_atS "InterlockingBox" 248 "java/lang/IllegalArgumentException" ["java/lang/RuntimeException", "java/lang/Exception"], w ∈ lw_tbl by decide +kernel) w hw, (show ∀ w ∈ vx_atS "InterlockingBox" 248 "java/lang/IllegalArgumentException" ["java/lang/RuntimeException", "java/lang/Exception"], okW w = true by decide +kernel) w hw⟩⟩
theorem tw_X9_313_377 : TW "InterlockingBox" 313 377 317 "java/lang/IndexOutOfBoundsException" "no such block or point" ["java/lang/RuntimeException", "java/lang/Exception"] := ⟨by decide +kernel, by decide +kernel, gw_of (List.mem_of_getElem? (i := 498) (by decide +kernel)) (by decide +kernel), gw_of (List.mem_of_getElem? (i := 46) (by decide +kernel)) (by decide +kernel), List.mem_of_getElem? (i := 7) rfl, fun w hw => ⟨(show ∀ w ∈ vx_atS "InterlockingBox" 317 "java/lang/IndexOutOfBoundsException" ["java/lang/RuntimeException", "java/lang/Exception"], w ∈ lw_tbl by decide +kernel) w hw, (show ∀ w ∈ vx_atS "InterlockingBox" 317 "java/lang/IndexOutOfBoundsException" ["java/lang/RuntimeException", "java/lang/Exception"], okW w = true by decide +kernel) w hw⟩⟩
theorem fl_X2_21 : FL "InterlockingBox$History" 21 1 2 0 := ⟨RX2, TX2, 3, rfl, us_X2, by decide, rfl, by decide, Or.inl (gw_of (List.mem_of_getElem? (i := 227) (by decide +kernel)) (by decide +kernel))⟩
theorem gl_X2_29 : Cond.methodLink "InterlockingBox$History" 29 Lib.Math.min.name ∈ gw := gw_of (List.mem_of_getElem? (i := 801) (by decide +kernel)) (by decide +kernel)
theorem gst_min : Cond.static Lib.Math.min.name ∈ gw := gw_of (List.mem_of_getElem? (i := 802) (by decide +kernel)) (by decide +kernel)
theorem gin_Math : Cond.initialized "java/lang/Math" ∈ gw := gw_of (List.mem_of_getElem? (i := 54) (by decide +kernel)) (by decide +kernel)
theorem gco_min : Cond.code Lib.Math.min.name Lib.Math.min.code 2 (some .int) ∈ gw := gw_of (List.mem_of_getElem? (i := 803) (by decide +kernel)) (by decide +kernel)
theorem fl_X9_25 : FL "InterlockingBox" 25 0 3 1 := ⟨RX9, TX9, 12, rfl, us_X9, by decide, rfl, by decide, Or.inl (gw_of (List.mem_of_getElem? (i := 334) (by decide +kernel)) (by decide +kernel))⟩
theorem md_X2_commit : MD mX2_commit 0 := ⟨gw_of (List.mem_of_getElem? (i := 34) (by decide +kernel)) (by decide +kernel), ⟨by decide +kernel, by decide +kernel⟩, by decide +kernel, by decide⟩
theorem mv_X9_374 : MV "InterlockingBox" 374 mX2_commit 0 RX2 := ⟨md_X2_commit, gw_of (List.mem_of_getElem? (i := 797) (by decide +kernel)) (by decide +kernel), gw_of (List.mem_of_getElem? (i := 798) (by decide +kernel)) (by decide +kernel), gw_of (List.mem_of_getElem? (i := 799) (by decide +kernel)) (by decide +kernel), gw_of (List.mem_of_getElem? (i := 800) (by decide +kernel)) (by decide +kernel)⟩
theorem md_X9_throwFor : MD mX9_throwFor 1 := ⟨gw_of (List.mem_of_getElem? (i := 30) (by decide +kernel)) (by decide +kernel), ⟨by decide +kernel, by decide +kernel⟩, by decide +kernel, by decide⟩
theorem ms_X9_371 : MS "InterlockingBox" 371 mX9_throwFor 1 := ⟨md_X9_throwFor, gw_of (List.mem_of_getElem? (i := 745) (by decide +kernel)) (by decide +kernel), gw_of (List.mem_of_getElem? (i := 746) (by decide +kernel)) (by decide +kernel), gw_of (List.mem_of_getElem? (i := 747) (by decide +kernel)) (by decide +kernel)⟩
theorem fl_X9_12 : FL "InterlockingBox" 12 0 0 1 := ⟨RX9, TX9, 12, rfl, us_X9, by decide, rfl, by decide, Or.inl (gw_of (List.mem_of_getElem? (i := 331) (by decide +kernel)) (by decide +kernel))⟩
theorem fl_X9_72 : FL "InterlockingBox" 72 5 0 1 := ⟨RX7, TX7, 9, rfl, us_X7, by decide, rfl, by decide, Or.inr ⟨"InterlockingBox", List.mem_of_getElem? (i := 15) rfl⟩⟩
theorem md_X9_settle : MD mX9_settle 1 := ⟨gw_of (List.mem_of_getElem? (i := 30) (by decide +kernel)) (by decide +kernel), ⟨by decide +kernel, by decide +kernel⟩, by decide +kernel, by decide⟩
theorem mv_X9_82 : MV "InterlockingBox" 82 mX9_settle 1 RX9 := ⟨md_X9_settle, gw_of (List.mem_of_getElem? (i := 741) (by decide +kernel)) (by decide +kernel), gw_of (List.mem_of_getElem? (i := 743) (by decide +kernel)) (by decide +kernel), gw_of (List.mem_of_getElem? (i := 8) (by decide +kernel)) (by decide +kernel), gw_of (List.mem_of_getElem? (i := 744) (by decide +kernel)) (by decide +kernel)⟩
theorem md_X4_makeBlock : MD mX4_makeBlock 1 := ⟨gw_of (List.mem_of_getElem? (i := 32) (by decide +kernel)) (by decide +kernel), ⟨by decide +kernel, by decide +kernel⟩, by decide +kernel, by decide⟩
theorem mv_X9_76 : MV "InterlockingBox" 76 mX4_makeBlock 1 RX4 := ⟨md_X4_makeBlock, gw_of (List.mem_of_getElem? (i := 717) (by decide +kernel)) (by decide +kernel), gw_of (List.mem_of_getElem? (i := 718) (by decide +kernel)) (by decide +kernel), gw_of (List.mem_of_getElem? (i := 719) (by decide +kernel)) (by decide +kernel), gw_of (List.mem_of_getElem? (i := 720) (by decide +kernel)) (by decide +kernel)⟩
theorem md_X2_keep : MD mX2_keep 1 := ⟨gw_of (List.mem_of_getElem? (i := 34) (by decide +kernel)) (by decide +kernel), ⟨by decide +kernel, by decide +kernel⟩, by decide +kernel, by decide⟩
theorem mv_X9_68 : MV "InterlockingBox" 68 mX2_keep 1 RX2 := ⟨md_X2_keep, gw_of (List.mem_of_getElem? (i := 697) (by decide +kernel)) (by decide +kernel), gw_of (List.mem_of_getElem? (i := 698) (by decide +kernel)) (by decide +kernel), gw_of (List.mem_of_getElem? (i := 699) (by decide +kernel)) (by decide +kernel), gw_of (List.mem_of_getElem? (i := 700) (by decide +kernel)) (by decide +kernel)⟩
theorem md_X4_hasExit : MD mX4_hasExit 1 := ⟨gw_of (List.mem_of_getElem? (i := 32) (by decide +kernel)) (by decide +kernel), ⟨by decide +kernel, by decide +kernel⟩, by decide +kernel, by decide⟩
theorem mv_X4_75 : MV "InterlockingBox$Line" 75 mX4_hasExit 1 RX4 := ⟨md_X4_hasExit, gw_of (List.mem_of_getElem? (i := 815) (by decide +kernel)) (by decide +kernel), gw_of (List.mem_of_getElem? (i := 816) (by decide +kernel)) (by decide +kernel), gw_of (List.mem_of_getElem? (i := 817) (by decide +kernel)) (by decide +kernel), gw_of (List.mem_of_getElem? (i := 818) (by decide +kernel)) (by decide +kernel)⟩
theorem md_X4_makePoint : MD mX4_makePoint 3 := ⟨gw_of (List.mem_of_getElem? (i := 32) (by decide +kernel)) (by decide +kernel), ⟨by decide +kernel, by decide +kernel⟩, by decide +kernel, by decide⟩
theorem mv_X9_85 : MV "InterlockingBox" 85 mX4_makePoint 3 RX4 := ⟨md_X4_makePoint, gw_of (List.mem_of_getElem? (i := 811) (by decide +kernel)) (by decide +kernel), gw_of (List.mem_of_getElem? (i := 812) (by decide +kernel)) (by decide +kernel), gw_of (List.mem_of_getElem? (i := 813) (by decide +kernel)) (by decide +kernel), gw_of (List.mem_of_getElem? (i := 814) (by decide +kernel)) (by decide +kernel)⟩
theorem md_X4_makeLink : MD mX4_makeLink 2 := ⟨gw_of (List.mem_of_getElem? (i := 32) (by decide +kernel)) (by decide +kernel), ⟨by decide +kernel, by decide +kernel⟩, by decide +kernel, by decide⟩
theorem mv_X9_89 : MV "InterlockingBox" 89 mX4_makeLink 2 RX4 := ⟨md_X4_makeLink, gw_of (List.mem_of_getElem? (i := 826) (by decide +kernel)) (by decide +kernel), gw_of (List.mem_of_getElem? (i := 827) (by decide +kernel)) (by decide +kernel), gw_of (List.mem_of_getElem? (i := 828) (by decide +kernel)) (by decide +kernel), gw_of (List.mem_of_getElem? (i := 829) (by decide +kernel)) (by decide +kernel)⟩
theorem fl_X7_81 : FL "InterlockingBox$State" 81 6 3 0 := ⟨RX8, TX8, 6, rfl, us_X8, by decide, rfl, by decide, Or.inr ⟨"InterlockingBox", List.mem_of_getElem? (i := 42) rfl⟩⟩
theorem msn_X7_69 : MSN "InterlockingBox$State" 69 mX9_contains 2 := ⟨md_X9_contains, ⟨"InterlockingBox", List.mem_of_getElem? (i := 6) (by decide +kernel)⟩, gw_of (List.mem_of_getElem? (i := 516) (by decide +kernel)) (by decide +kernel), gw_of (List.mem_of_getElem? (i := 517) (by decide +kernel)) (by decide +kernel)⟩
theorem gc_J6_265 : Cond.constant "java/lang/Integer" 265 (nI 1431655765) ∈ gw := gw_of (List.mem_of_getElem? (i := 845) (by decide +kernel)) (by decide +kernel)
theorem gc_J6_266 : Cond.constant "java/lang/Integer" 266 (nI 858993459) ∈ gw := gw_of (List.mem_of_getElem? (i := 846) (by decide +kernel)) (by decide +kernel)
theorem gc_J6_267 : Cond.constant "java/lang/Integer" 267 (nI 252645135) ∈ gw := gw_of (List.mem_of_getElem? (i := 847) (by decide +kernel)) (by decide +kernel)
theorem fl_X7_84 : FL "InterlockingBox$State" 84 2 3 0 := ⟨RX4, TX4, 12, rfl, us_X4, by decide, rfl, by decide, Or.inr ⟨"InterlockingBox", List.mem_of_getElem? (i := 43) rfl⟩⟩
theorem fp_X7_84 : FP "InterlockingBox$State" 84 2 3 0 (.int) false := ⟨RX4, TX4, 12, tyX4, rfl, us_X4, by decide, rfl, by decide, Or.inr ⟨rfl, "InterlockingBox", List.mem_of_getElem? (i := 43) rfl⟩, tyX4_ok, nmX4, rfl, rfl, fun z => nomatch z⟩
theorem md_J6_bitCount_0f7a4 : MD mJ6_bitCount_0f7a4 1 := ⟨gw_of (List.mem_of_getElem? (i := 56) (by decide +kernel)) (by decide +kernel), ⟨by decide +kernel, by decide +kernel⟩, by decide +kernel, by decide⟩
theorem ms_X7_94 : MS "InterlockingBox$State" 94 mJ6_bitCount_0f7a4 1 := ⟨md_J6_bitCount_0f7a4, gw_of (List.mem_of_getElem? (i := 842) (by decide +kernel)) (by decide +kernel), gw_of (List.mem_of_getElem? (i := 843) (by decide +kernel)) (by decide +kernel), gw_of (List.mem_of_getElem? (i := 844) (by decide +kernel)) (by decide +kernel)⟩
theorem md_X7_isReserved : MD mX7_isReserved 1 := ⟨gw_of (List.mem_of_getElem? (i := 31) (by decide +kernel)) (by decide +kernel), ⟨by decide +kernel, by decide +kernel⟩, by decide +kernel, by decide⟩
theorem mv_X7_87 : MV "InterlockingBox$State" 87 mX7_isReserved 1 RX7 := ⟨md_X7_isReserved, gw_of (List.mem_of_getElem? (i := 518) (by decide +kernel)) (by decide +kernel), gw_of (List.mem_of_getElem? (i := 519) (by decide +kernel)) (by decide +kernel), gw_of (List.mem_of_getElem? (i := 520) (by decide +kernel)) (by decide +kernel), gw_of (List.mem_of_getElem? (i := 521) (by decide +kernel)) (by decide +kernel)⟩
theorem mv_X7_91 : MV "InterlockingBox$State" 91 mX4_has 1 RX4 := ⟨md_X4_has, gw_of (List.mem_of_getElem? (i := 841) (by decide +kernel)) (by decide +kernel), gw_of (List.mem_of_getElem? (i := 495) (by decide +kernel)) (by decide +kernel), gw_of (List.mem_of_getElem? (i := 496) (by decide +kernel)) (by decide +kernel), gw_of (List.mem_of_getElem? (i := 497) (by decide +kernel)) (by decide +kernel)⟩
theorem md_X7_shutBlock : MD mX7_shutBlock 1 := ⟨gw_of (List.mem_of_getElem? (i := 31) (by decide +kernel)) (by decide +kernel), ⟨by decide +kernel, by decide +kernel⟩, by decide +kernel, by decide⟩
theorem mv_X9_93 : MV "InterlockingBox" 93 mX7_shutBlock 1 RX7 := ⟨md_X7_shutBlock, gw_of (List.mem_of_getElem? (i := 837) (by decide +kernel)) (by decide +kernel), gw_of (List.mem_of_getElem? (i := 838) (by decide +kernel)) (by decide +kernel), gw_of (List.mem_of_getElem? (i := 839) (by decide +kernel)) (by decide +kernel), gw_of (List.mem_of_getElem? (i := 840) (by decide +kernel)) (by decide +kernel)⟩
theorem md_X7_openBlock : MD mX7_openBlock 1 := ⟨gw_of (List.mem_of_getElem? (i := 31) (by decide +kernel)) (by decide +kernel), ⟨by decide +kernel, by decide +kernel⟩, by decide +kernel, by decide⟩
theorem mv_X9_96 : MV "InterlockingBox" 96 mX7_openBlock 1 RX7 := ⟨md_X7_openBlock, gw_of (List.mem_of_getElem? (i := 855) (by decide +kernel)) (by decide +kernel), gw_of (List.mem_of_getElem? (i := 856) (by decide +kernel)) (by decide +kernel), gw_of (List.mem_of_getElem? (i := 857) (by decide +kernel)) (by decide +kernel), gw_of (List.mem_of_getElem? (i := 858) (by decide +kernel)) (by decide +kernel)⟩
theorem md_X4_hasPoint : MD mX4_hasPoint 1 := ⟨gw_of (List.mem_of_getElem? (i := 32) (by decide +kernel)) (by decide +kernel), ⟨by decide +kernel, by decide +kernel⟩, by decide +kernel, by decide⟩
theorem mv_X4_61 : MV "InterlockingBox$Line" 61 mX4_hasPoint 1 RX4 := ⟨md_X4_hasPoint, gw_of (List.mem_of_getElem? (i := 882) (by decide +kernel)) (by decide +kernel), gw_of (List.mem_of_getElem? (i := 871) (by decide +kernel)) (by decide +kernel), gw_of (List.mem_of_getElem? (i := 872) (by decide +kernel)) (by decide +kernel), gw_of (List.mem_of_getElem? (i := 873) (by decide +kernel)) (by decide +kernel)⟩
theorem msn_X8_36 : MSN "InterlockingBox$Train" 36 mX9_contains 2 := ⟨md_X9_contains, ⟨"InterlockingBox", List.mem_of_getElem? (i := 7) (by decide +kernel)⟩, gw_of (List.mem_of_getElem? (i := 516) (by decide +kernel)) (by decide +kernel), gw_of (List.mem_of_getElem? (i := 517) (by decide +kernel)) (by decide +kernel)⟩
theorem md_X8_held : MD mX8_held 0 := ⟨gw_of (List.mem_of_getElem? (i := 33) (by decide +kernel)) (by decide +kernel), ⟨by decide +kernel, by decide +kernel⟩, by decide +kernel, by decide⟩
theorem mv_X8_32 : MV "InterlockingBox$Train" 32 mX8_held 0 RX8 := ⟨md_X8_held, gw_of (List.mem_of_getElem? (i := 888) (by decide +kernel)) (by decide +kernel), gw_of (List.mem_of_getElem? (i := 527) (by decide +kernel)) (by decide +kernel), gw_of (List.mem_of_getElem? (i := 528) (by decide +kernel)) (by decide +kernel), gw_of (List.mem_of_getElem? (i := 529) (by decide +kernel)) (by decide +kernel)⟩
theorem md_X8_isRouted : MD mX8_isRouted 0 := ⟨gw_of (List.mem_of_getElem? (i := 33) (by decide +kernel)) (by decide +kernel), ⟨by decide +kernel, by decide +kernel⟩, by decide +kernel, by decide⟩
theorem mv_X8_28 : MV "InterlockingBox$Train" 28 mX8_isRouted 0 RX8 := ⟨md_X8_isRouted, gw_of (List.mem_of_getElem? (i := 887) (by decide +kernel)) (by decide +kernel), gw_of (List.mem_of_getElem? (i := 595) (by decide +kernel)) (by decide +kernel), gw_of (List.mem_of_getElem? (i := 596) (by decide +kernel)) (by decide +kernel), gw_of (List.mem_of_getElem? (i := 597) (by decide +kernel)) (by decide +kernel)⟩
theorem fl_X7_62 : FL "InterlockingBox$State" 62 6 0 0 := ⟨RX8, TX8, 6, rfl, us_X8, by decide, rfl, by decide, Or.inr ⟨"InterlockingBox", List.mem_of_getElem? (i := 41) rfl⟩⟩
theorem md_X8_locks : MD mX8_locks 1 := ⟨gw_of (List.mem_of_getElem? (i := 33) (by decide +kernel)) (by decide +kernel), ⟨by decide +kernel, by decide +kernel⟩, by decide +kernel, by decide⟩
end
section
theorem mv_X7_77 : MV "InterlockingBox$State" 77 mX8_locks 1 RX8 := ⟨md_X8_locks, gw_of (List.mem_of_getElem? (i := 883) (by decide +kernel)) (by decide +kernel), gw_of (List.mem_of_getElem? (i := 884) (by decide +kernel)) (by decide +kernel), gw_of (List.mem_of_getElem? (i := 885) (by decide +kernel)) (by decide +kernel), gw_of (List.mem_of_getElem? (i := 886) (by decide +kernel)) (by decide +kernel)⟩
theorem md_X4_stemOf : MD mX4_stemOf 1 := ⟨gw_of (List.mem_of_getElem? (i := 32) (by decide +kernel)) (by decide +kernel), ⟨by decide +kernel, by decide +kernel⟩, by decide +kernel, by decide⟩
theorem mv_X7_73 : MV "InterlockingBox$State" 73 mX4_stemOf 1 RX4 := ⟨md_X4_stemOf, gw_of (List.mem_of_getElem? (i := 878) (by decide +kernel)) (by decide +kernel), gw_of (List.mem_of_getElem? (i := 879) (by decide +kernel)) (by decide +kernel), gw_of (List.mem_of_getElem? (i := 880) (by decide +kernel)) (by decide +kernel), gw_of (List.mem_of_getElem? (i := 881) (by decide +kernel)) (by decide +kernel)⟩
theorem mv_X4_64 : MV "InterlockingBox$Line" 64 mX4_stemOf 1 RX4 := ⟨md_X4_stemOf, gw_of (List.mem_of_getElem? (i := 894) (by decide +kernel)) (by decide +kernel), gw_of (List.mem_of_getElem? (i := 879) (by decide +kernel)) (by decide +kernel), gw_of (List.mem_of_getElem? (i := 880) (by decide +kernel)) (by decide +kernel), gw_of (List.mem_of_getElem? (i := 881) (by decide +kernel)) (by decide +kernel)⟩
theorem md_X4_pointsLeft : MD mX4_pointsLeft 1 := ⟨gw_of (List.mem_of_getElem? (i := 32) (by decide +kernel)) (by decide +kernel), ⟨by decide +kernel, by decide +kernel⟩, by decide +kernel, by decide⟩
theorem mv_X7_109 : MV "InterlockingBox$State" 109 mX4_pointsLeft 1 RX4 := ⟨md_X4_pointsLeft, gw_of (List.mem_of_getElem? (i := 895) (by decide +kernel)) (by decide +kernel), gw_of (List.mem_of_getElem? (i := 896) (by decide +kernel)) (by decide +kernel), gw_of (List.mem_of_getElem? (i := 897) (by decide +kernel)) (by decide +kernel), gw_of (List.mem_of_getElem? (i := 898) (by decide +kernel)) (by decide +kernel)⟩
theorem md_X4_turn : MD mX4_turn 1 := ⟨gw_of (List.mem_of_getElem? (i := 32) (by decide +kernel)) (by decide +kernel), ⟨by decide +kernel, by decide +kernel⟩, by decide +kernel, by decide⟩
theorem mv_X7_105 : MV "InterlockingBox$State" 105 mX4_turn 1 RX4 := ⟨md_X4_turn, gw_of (List.mem_of_getElem? (i := 890) (by decide +kernel)) (by decide +kernel), gw_of (List.mem_of_getElem? (i := 891) (by decide +kernel)) (by decide +kernel), gw_of (List.mem_of_getElem? (i := 892) (by decide +kernel)) (by decide +kernel), gw_of (List.mem_of_getElem? (i := 893) (by decide +kernel)) (by decide +kernel)⟩
theorem md_X7_lockerOf : MD mX7_lockerOf 1 := ⟨gw_of (List.mem_of_getElem? (i := 31) (by decide +kernel)) (by decide +kernel), ⟨by decide +kernel, by decide +kernel⟩, by decide +kernel, by decide⟩
theorem mv_X7_102 : MV "InterlockingBox$State" 102 mX7_lockerOf 1 RX7 := ⟨md_X7_lockerOf, gw_of (List.mem_of_getElem? (i := 874) (by decide +kernel)) (by decide +kernel), gw_of (List.mem_of_getElem? (i := 875) (by decide +kernel)) (by decide +kernel), gw_of (List.mem_of_getElem? (i := 876) (by decide +kernel)) (by decide +kernel), gw_of (List.mem_of_getElem? (i := 877) (by decide +kernel)) (by decide +kernel)⟩
theorem mv_X7_99 : MV "InterlockingBox$State" 99 mX4_hasPoint 1 RX4 := ⟨md_X4_hasPoint, gw_of (List.mem_of_getElem? (i := 870) (by decide +kernel)) (by decide +kernel), gw_of (List.mem_of_getElem? (i := 871) (by decide +kernel)) (by decide +kernel), gw_of (List.mem_of_getElem? (i := 872) (by decide +kernel)) (by decide +kernel), gw_of (List.mem_of_getElem? (i := 873) (by decide +kernel)) (by decide +kernel)⟩
theorem md_X7_movePoint : MD mX7_movePoint 1 := ⟨gw_of (List.mem_of_getElem? (i := 31) (by decide +kernel)) (by decide +kernel), ⟨by decide +kernel, by decide +kernel⟩, by decide +kernel, by decide⟩
theorem mv_X9_99 : MV "InterlockingBox" 99 mX7_movePoint 1 RX7 := ⟨md_X7_movePoint, gw_of (List.mem_of_getElem? (i := 866) (by decide +kernel)) (by decide +kernel), gw_of (List.mem_of_getElem? (i := 867) (by decide +kernel)) (by decide +kernel), gw_of (List.mem_of_getElem? (i := 868) (by decide +kernel)) (by decide +kernel), gw_of (List.mem_of_getElem? (i := 869) (by decide +kernel)) (by decide +kernel)⟩
theorem mv_X7_65 : MV "InterlockingBox$State" 65 mX8_held 0 RX8 := ⟨md_X8_held, gw_of (List.mem_of_getElem? (i := 526) (by decide +kernel)) (by decide +kernel), gw_of (List.mem_of_getElem? (i := 527) (by decide +kernel)) (by decide +kernel), gw_of (List.mem_of_getElem? (i := 528) (by decide +kernel)) (by decide +kernel), gw_of (List.mem_of_getElem? (i := 529) (by decide +kernel)) (by decide +kernel)⟩
theorem md_X7_joinQueue : MD mX7_joinQueue 1 := ⟨gw_of (List.mem_of_getElem? (i := 31) (by decide +kernel)) (by decide +kernel), ⟨by decide +kernel, by decide +kernel⟩, by decide +kernel, by decide⟩
theorem mv_X7_116 : MV "InterlockingBox$State" 116 mX7_joinQueue 1 RX7 := ⟨md_X7_joinQueue, gw_of (List.mem_of_getElem? (i := 914) (by decide +kernel)) (by decide +kernel), gw_of (List.mem_of_getElem? (i := 916) (by decide +kernel)) (by decide +kernel), gw_of (List.mem_of_getElem? (i := 9) (by decide +kernel)) (by decide +kernel), gw_of (List.mem_of_getElem? (i := 917) (by decide +kernel)) (by decide +kernel)⟩
theorem md_X8_begin : MD mX8_begin 3 := ⟨gw_of (List.mem_of_getElem? (i := 33) (by decide +kernel)) (by decide +kernel), ⟨by decide +kernel, by decide +kernel⟩, by decide +kernel, by decide⟩
theorem mv_X7_112 : MV "InterlockingBox$State" 112 mX8_begin 3 RX8 := ⟨md_X8_begin, gw_of (List.mem_of_getElem? (i := 910) (by decide +kernel)) (by decide +kernel), gw_of (List.mem_of_getElem? (i := 911) (by decide +kernel)) (by decide +kernel), gw_of (List.mem_of_getElem? (i := 912) (by decide +kernel)) (by decide +kernel), gw_of (List.mem_of_getElem? (i := 913) (by decide +kernel)) (by decide +kernel)⟩
theorem md_X7_held : MD mX7_held 0 := ⟨gw_of (List.mem_of_getElem? (i := 31) (by decide +kernel)) (by decide +kernel), ⟨by decide +kernel, by decide +kernel⟩, by decide +kernel, by decide⟩
theorem mv_X7_90 : MV "InterlockingBox$State" 90 mX7_held 0 RX7 := ⟨md_X7_held, gw_of (List.mem_of_getElem? (i := 522) (by decide +kernel)) (by decide +kernel), gw_of (List.mem_of_getElem? (i := 523) (by decide +kernel)) (by decide +kernel), gw_of (List.mem_of_getElem? (i := 524) (by decide +kernel)) (by decide +kernel), gw_of (List.mem_of_getElem? (i := 525) (by decide +kernel)) (by decide +kernel)⟩
theorem md_X7_bringTrain : MD mX7_bringTrain 2 := ⟨gw_of (List.mem_of_getElem? (i := 31) (by decide +kernel)) (by decide +kernel), ⟨by decide +kernel, by decide +kernel⟩, by decide +kernel, by decide⟩
theorem mv_X9_102 : MV "InterlockingBox" 102 mX7_bringTrain 2 RX7 := ⟨md_X7_bringTrain, gw_of (List.mem_of_getElem? (i := 906) (by decide +kernel)) (by decide +kernel), gw_of (List.mem_of_getElem? (i := 907) (by decide +kernel)) (by decide +kernel), gw_of (List.mem_of_getElem? (i := 908) (by decide +kernel)) (by decide +kernel), gw_of (List.mem_of_getElem? (i := 909) (by decide +kernel)) (by decide +kernel)⟩
theorem fl_X7_119 : FL "InterlockingBox$State" 119 6 1 0 := ⟨RX8, TX8, 6, rfl, us_X8, by decide, rfl, by decide, Or.inr ⟨"InterlockingBox", List.mem_of_getElem? (i := 37) rfl⟩⟩
theorem fl_X7_122 : FL "InterlockingBox$State" 122 6 2 0 := ⟨RX8, TX8, 6, rfl, us_X8, by decide, rfl, by decide, Or.inr ⟨"InterlockingBox", List.mem_of_getElem? (i := 38) rfl⟩⟩
theorem mv_X7_129 : MV "InterlockingBox$State" 129 mX8_isRouted 0 RX8 := ⟨md_X8_isRouted, gw_of (List.mem_of_getElem? (i := 610) (by decide +kernel)) (by decide +kernel), gw_of (List.mem_of_getElem? (i := 595) (by decide +kernel)) (by decide +kernel), gw_of (List.mem_of_getElem? (i := 596) (by decide +kernel)) (by decide +kernel), gw_of (List.mem_of_getElem? (i := 597) (by decide +kernel)) (by decide +kernel)⟩
theorem md_X4_routeBlocks : MD mX4_routeBlocks 2 := ⟨gw_of (List.mem_of_getElem? (i := 32) (by decide +kernel)) (by decide +kernel), ⟨by decide +kernel, by decide +kernel⟩, by decide +kernel, by decide⟩
theorem mv_X7_125 : MV "InterlockingBox$State" 125 mX4_routeBlocks 2 RX4 := ⟨md_X4_routeBlocks, gw_of (List.mem_of_getElem? (i := 609) (by decide +kernel)) (by decide +kernel), gw_of (List.mem_of_getElem? (i := 543) (by decide +kernel)) (by decide +kernel), gw_of (List.mem_of_getElem? (i := 544) (by decide +kernel)) (by decide +kernel), gw_of (List.mem_of_getElem? (i := 545) (by decide +kernel)) (by decide +kernel)⟩
theorem fp_X7_81 : FP "InterlockingBox$State" 81 6 3 0 (.int) false := ⟨RX8, TX8, 6, tyX8, rfl, us_X8, by decide, rfl, by decide, Or.inr ⟨rfl, "InterlockingBox", List.mem_of_getElem? (i := 42) rfl⟩, tyX8_ok, nmX8, rfl, rfl, fun z => nomatch z⟩
theorem fp_X7_163 : FP "InterlockingBox$State" 163 6 4 0 (.int) false := ⟨RX8, TX8, 6, tyX8, rfl, us_X8, by decide, rfl, by decide, Or.inr ⟨rfl, "InterlockingBox", List.mem_of_getElem? (i := 39) rfl⟩, tyX8_ok, nmX8, rfl, rfl, fun z => nomatch z⟩
theorem md_X4_lengthOf : MD mX4_lengthOf 1 := ⟨gw_of (List.mem_of_getElem? (i := 32) (by decide +kernel)) (by decide +kernel), ⟨by decide +kernel, by decide +kernel⟩, by decide +kernel, by decide⟩
theorem mv_X7_160 : MV "InterlockingBox$State" 160 mX4_lengthOf 1 RX4 := ⟨md_X4_lengthOf, gw_of (List.mem_of_getElem? (i := 638) (by decide +kernel)) (by decide +kernel), gw_of (List.mem_of_getElem? (i := 639) (by decide +kernel)) (by decide +kernel), gw_of (List.mem_of_getElem? (i := 640) (by decide +kernel)) (by decide +kernel), gw_of (List.mem_of_getElem? (i := 641) (by decide +kernel)) (by decide +kernel)⟩
theorem md_X4_exitOf : MD mX4_exitOf 1 := ⟨gw_of (List.mem_of_getElem? (i := 32) (by decide +kernel)) (by decide +kernel), ⟨by decide +kernel, by decide +kernel⟩, by decide +kernel, by decide⟩
theorem mv_X7_157 : MV "InterlockingBox$State" 157 mX4_exitOf 1 RX4 := ⟨md_X4_exitOf, gw_of (List.mem_of_getElem? (i := 634) (by decide +kernel)) (by decide +kernel), gw_of (List.mem_of_getElem? (i := 635) (by decide +kernel)) (by decide +kernel), gw_of (List.mem_of_getElem? (i := 636) (by decide +kernel)) (by decide +kernel), gw_of (List.mem_of_getElem? (i := 637) (by decide +kernel)) (by decide +kernel)⟩
theorem md_X4_turnForRoute : MD mX4_turnForRoute 2 := ⟨gw_of (List.mem_of_getElem? (i := 32) (by decide +kernel)) (by decide +kernel), ⟨by decide +kernel, by decide +kernel⟩, by decide +kernel, by decide⟩
theorem mv_X7_153 : MV "InterlockingBox$State" 153 mX4_turnForRoute 2 RX4 := ⟨md_X4_turnForRoute, gw_of (List.mem_of_getElem? (i := 944) (by decide +kernel)) (by decide +kernel), gw_of (List.mem_of_getElem? (i := 945) (by decide +kernel)) (by decide +kernel), gw_of (List.mem_of_getElem? (i := 946) (by decide +kernel)) (by decide +kernel), gw_of (List.mem_of_getElem? (i := 947) (by decide +kernel)) (by decide +kernel)⟩
theorem md_X4_totalLength : MD mX4_totalLength 1 := ⟨gw_of (List.mem_of_getElem? (i := 32) (by decide +kernel)) (by decide +kernel), ⟨by decide +kernel, by decide +kernel⟩, by decide +kernel, by decide⟩
theorem mv_X7_150 : MV "InterlockingBox$State" 150 mX4_totalLength 1 RX4 := ⟨md_X4_totalLength, gw_of (List.mem_of_getElem? (i := 642) (by decide +kernel)) (by decide +kernel), gw_of (List.mem_of_getElem? (i := 564) (by decide +kernel)) (by decide +kernel), gw_of (List.mem_of_getElem? (i := 565) (by decide +kernel)) (by decide +kernel), gw_of (List.mem_of_getElem? (i := 566) (by decide +kernel)) (by decide +kernel)⟩
theorem md_X7_reserveRoute : MD mX7_reserveRoute 1 := ⟨gw_of (List.mem_of_getElem? (i := 31) (by decide +kernel)) (by decide +kernel), ⟨by decide +kernel, by decide +kernel⟩, by decide +kernel, by decide⟩
theorem mv_X7_147 : MV "InterlockingBox$State" 147 mX7_reserveRoute 1 RX7 := ⟨md_X7_reserveRoute, gw_of (List.mem_of_getElem? (i := 940) (by decide +kernel)) (by decide +kernel), gw_of (List.mem_of_getElem? (i := 942) (by decide +kernel)) (by decide +kernel), gw_of (List.mem_of_getElem? (i := 12) (by decide +kernel)) (by decide +kernel), gw_of (List.mem_of_getElem? (i := 943) (by decide +kernel)) (by decide +kernel)⟩
theorem md_X7_leaveQueue : MD mX7_leaveQueue 1 := ⟨gw_of (List.mem_of_getElem? (i := 31) (by decide +kernel)) (by decide +kernel), ⟨by decide +kernel, by decide +kernel⟩, by decide +kernel, by decide⟩
theorem mv_X7_144 : MV "InterlockingBox$State" 144 mX7_leaveQueue 1 RX7 := ⟨md_X7_leaveQueue, gw_of (List.mem_of_getElem? (i := 936) (by decide +kernel)) (by decide +kernel), gw_of (List.mem_of_getElem? (i := 938) (by decide +kernel)) (by decide +kernel), gw_of (List.mem_of_getElem? (i := 11) (by decide +kernel)) (by decide +kernel), gw_of (List.mem_of_getElem? (i := 939) (by decide +kernel)) (by decide +kernel)⟩
theorem md_X7_canSet : MD mX7_canSet 1 := ⟨gw_of (List.mem_of_getElem? (i := 31) (by decide +kernel)) (by decide +kernel), ⟨by decide +kernel, by decide +kernel⟩, by decide +kernel, by decide⟩
theorem mv_X7_140 : MV "InterlockingBox$State" 140 mX7_canSet 1 RX7 := ⟨md_X7_canSet, gw_of (List.mem_of_getElem? (i := 935) (by decide +kernel)) (by decide +kernel), gw_of (List.mem_of_getElem? (i := 606) (by decide +kernel)) (by decide +kernel), gw_of (List.mem_of_getElem? (i := 607) (by decide +kernel)) (by decide +kernel), gw_of (List.mem_of_getElem? (i := 608) (by decide +kernel)) (by decide +kernel)⟩
theorem md_X7_find : MD mX7_find 1 := ⟨gw_of (List.mem_of_getElem? (i := 31) (by decide +kernel)) (by decide +kernel), ⟨by decide +kernel, by decide +kernel⟩, by decide +kernel, by decide⟩
theorem mv_X7_136 : MV "InterlockingBox$State" 136 mX7_find 1 RX7 := ⟨md_X7_find, gw_of (List.mem_of_getElem? (i := 934) (by decide +kernel)) (by decide +kernel), gw_of (List.mem_of_getElem? (i := 381) (by decide +kernel)) (by decide +kernel), gw_of (List.mem_of_getElem? (i := 382) (by decide +kernel)) (by decide +kernel), gw_of (List.mem_of_getElem? (i := 383) (by decide +kernel)) (by decide +kernel)⟩
theorem md_X4_nextOnRoute : MD mX4_nextOnRoute 2 := ⟨gw_of (List.mem_of_getElem? (i := 32) (by decide +kernel)) (by decide +kernel), ⟨by decide +kernel, by decide +kernel⟩, by decide +kernel, by decide⟩
theorem mv_X7_133 : MV "InterlockingBox$State" 133 mX4_nextOnRoute 2 RX4 := ⟨md_X4_nextOnRoute, gw_of (List.mem_of_getElem? (i := 956) (by decide +kernel)) (by decide +kernel), gw_of (List.mem_of_getElem? (i := 957) (by decide +kernel)) (by decide +kernel), gw_of (List.mem_of_getElem? (i := 958) (by decide +kernel)) (by decide +kernel), gw_of (List.mem_of_getElem? (i := 959) (by decide +kernel)) (by decide +kernel)⟩
theorem fl_X9_58 : FL "InterlockingBox" 58 0 9 0 := ⟨RX9, TX9, 12, rfl, us_X9, by decide, rfl, by decide, Or.inl (gw_of (List.mem_of_getElem? (i := 340) (by decide +kernel)) (by decide +kernel))⟩
theorem md_X7_stateOf : MD mX7_stateOf 1 := ⟨gw_of (List.mem_of_getElem? (i := 31) (by decide +kernel)) (by decide +kernel), ⟨by decide +kernel, by decide +kernel⟩, by decide +kernel, by decide⟩
theorem mv_X9_124 : MV "InterlockingBox" 124 mX7_stateOf 1 RX7 := ⟨md_X7_stateOf, gw_of (List.mem_of_getElem? (i := 511) (by decide +kernel)) (by decide +kernel), gw_of (List.mem_of_getElem? (i := 512) (by decide +kernel)) (by decide +kernel), gw_of (List.mem_of_getElem? (i := 513) (by decide +kernel)) (by decide +kernel), gw_of (List.mem_of_getElem? (i := 514) (by decide +kernel)) (by decide +kernel)⟩
theorem md_X7_firstNotFree : MD mX7_firstNotFree 1 := ⟨gw_of (List.mem_of_getElem? (i := 31) (by decide +kernel)) (by decide +kernel), ⟨by decide +kernel, by decide +kernel⟩, by decide +kernel, by decide⟩
theorem mv_X9_408 : MV "InterlockingBox" 408 mX7_firstNotFree 1 RX7 := ⟨md_X7_firstNotFree, gw_of (List.mem_of_getElem? (i := 952) (by decide +kernel)) (by decide +kernel), gw_of (List.mem_of_getElem? (i := 953) (by decide +kernel)) (by decide +kernel), gw_of (List.mem_of_getElem? (i := 954) (by decide +kernel)) (by decide +kernel), gw_of (List.mem_of_getElem? (i := 955) (by decide +kernel)) (by decide +kernel)⟩
theorem md_X9_recordRefusal : MD mX9_recordRefusal 1 := ⟨gw_of (List.mem_of_getElem? (i := 30) (by decide +kernel)) (by decide +kernel), ⟨by decide +kernel, by decide +kernel⟩, by decide +kernel, by decide⟩
theorem mv_X9_405 : MV "InterlockingBox" 405 mX9_recordRefusal 1 RX9 := ⟨md_X9_recordRefusal, gw_of (List.mem_of_getElem? (i := 948) (by decide +kernel)) (by decide +kernel), gw_of (List.mem_of_getElem? (i := 950) (by decide +kernel)) (by decide +kernel), gw_of (List.mem_of_getElem? (i := 13) (by decide +kernel)) (by decide +kernel), gw_of (List.mem_of_getElem? (i := 951) (by decide +kernel)) (by decide +kernel)⟩
theorem mv_X9_176 : MV "InterlockingBox" 176 mX7_find 1 RX7 := ⟨md_X7_find, gw_of (List.mem_of_getElem? (i := 380) (by decide +kernel)) (by decide +kernel), gw_of (List.mem_of_getElem? (i := 381) (by decide +kernel)) (by decide +kernel), gw_of (List.mem_of_getElem? (i := 382) (by decide +kernel)) (by decide +kernel), gw_of (List.mem_of_getElem? (i := 383) (by decide +kernel)) (by decide +kernel)⟩
theorem md_X7_grantRoute : MD mX7_grantRoute 1 := ⟨gw_of (List.mem_of_getElem? (i := 31) (by decide +kernel)) (by decide +kernel), ⟨by decide +kernel, by decide +kernel⟩, by decide +kernel, by decide⟩
theorem mv_X9_402 : MV "InterlockingBox" 402 mX7_grantRoute 1 RX7 := ⟨md_X7_grantRoute, gw_of (List.mem_of_getElem? (i := 930) (by decide +kernel)) (by decide +kernel), gw_of (List.mem_of_getElem? (i := 931) (by decide +kernel)) (by decide +kernel), gw_of (List.mem_of_getElem? (i := 932) (by decide +kernel)) (by decide +kernel), gw_of (List.mem_of_getElem? (i := 933) (by decide +kernel)) (by decide +kernel)⟩
theorem md_X9_grantOrRecord : MD mX9_grantOrRecord 1 := ⟨gw_of (List.mem_of_getElem? (i := 30) (by decide +kernel)) (by decide +kernel), ⟨by decide +kernel, by decide +kernel⟩, by decide +kernel, by decide⟩
theorem mv_X9_105 : MV "InterlockingBox" 105 mX9_grantOrRecord 1 RX9 := ⟨md_X9_grantOrRecord, gw_of (List.mem_of_getElem? (i := 926) (by decide +kernel)) (by decide +kernel), gw_of (List.mem_of_getElem? (i := 928) (by decide +kernel)) (by decide +kernel), gw_of (List.mem_of_getElem? (i := 10) (by decide +kernel)) (by decide +kernel), gw_of (List.mem_of_getElem? (i := 929) (by decide +kernel)) (by decide +kernel)⟩
theorem md_X7_withdrawRoute : MD mX7_withdrawRoute 1 := ⟨gw_of (List.mem_of_getElem? (i := 31) (by decide +kernel)) (by decide +kernel), ⟨by decide +kernel, by decide +kernel⟩, by decide +kernel, by decide⟩
theorem mv_X9_108 : MV "InterlockingBox" 108 mX7_withdrawRoute 1 RX7 := ⟨md_X7_withdrawRoute, gw_of (List.mem_of_getElem? (i := 967) (by decide +kernel)) (by decide +kernel), gw_of (List.mem_of_getElem? (i := 968) (by decide +kernel)) (by decide +kernel), gw_of (List.mem_of_getElem? (i := 969) (by decide +kernel)) (by decide +kernel), gw_of (List.mem_of_getElem? (i := 970) (by decide +kernel)) (by decide +kernel)⟩
theorem fp_X7_119 : FP "InterlockingBox$State" 119 6 1 0 (.int) false := ⟨RX8, TX8, 6, tyX8, rfl, us_X8, by decide, rfl, by decide, Or.inr ⟨rfl, "InterlockingBox", List.mem_of_getElem? (i := 37) rfl⟩, tyX8_ok, nmX8, rfl, rfl, fun z => nomatch z⟩
theorem fl_X7_178 : FL "InterlockingBox$State" 178 6 5 0 := ⟨RX8, TX8, 6, rfl, us_X8, by decide, rfl, by decide, Or.inr ⟨"InterlockingBox", List.mem_of_getElem? (i := 40) rfl⟩⟩
theorem fp_X7_178 : FP "InterlockingBox$State" 178 6 5 0 (.int) false := ⟨RX8, TX8, 6, tyX8, rfl, us_X8, by decide, rfl, by decide, Or.inr ⟨rfl, "InterlockingBox", List.mem_of_getElem? (i := 40) rfl⟩, tyX8_ok, nmX8, rfl, rfl, fun z => nomatch z⟩
theorem md_X7_considerQueue : MD mX7_considerQueue 0 := ⟨gw_of (List.mem_of_getElem? (i := 31) (by decide +kernel)) (by decide +kernel), ⟨by decide +kernel, by decide +kernel⟩, by decide +kernel, by decide⟩
theorem mv_X7_175 : MV "InterlockingBox$State" 175 mX7_considerQueue 0 RX7 := ⟨md_X7_considerQueue, gw_of (List.mem_of_getElem? (i := 1303) (by decide +kernel)) (by decide +kernel), gw_of (List.mem_of_getElem? (i := 1305) (by decide +kernel)) (by decide +kernel), gw_of (List.mem_of_getElem? (i := 23) (by decide +kernel)) (by decide +kernel), gw_of (List.mem_of_getElem? (i := 1306) (by decide +kernel)) (by decide +kernel)⟩
theorem md_X7_removeArrived : MD mX7_removeArrived 0 := ⟨gw_of (List.mem_of_getElem? (i := 31) (by decide +kernel)) (by decide +kernel), ⟨by decide +kernel, by decide +kernel⟩, by decide +kernel, by decide⟩
theorem mv_X7_172 : MV "InterlockingBox$State" 172 mX7_removeArrived 0 RX7 := ⟨md_X7_removeArrived, gw_of (List.mem_of_getElem? (i := 1299) (by decide +kernel)) (by decide +kernel), gw_of (List.mem_of_getElem? (i := 1301) (by decide +kernel)) (by decide +kernel), gw_of (List.mem_of_getElem? (i := 22) (by decide +kernel)) (by decide +kernel), gw_of (List.mem_of_getElem? (i := 1302) (by decide +kernel)) (by decide +kernel)⟩
theorem fl_X7_163 : FL "InterlockingBox$State" 163 6 4 0 := ⟨RX8, TX8, 6, rfl, us_X8, by decide, rfl, by decide, Or.inr ⟨"InterlockingBox", List.mem_of_getElem? (i := 39) rfl⟩⟩
theorem md_X7_enterNext : MD mX7_enterNext 1 := ⟨gw_of (List.mem_of_getElem? (i := 31) (by decide +kernel)) (by decide +kernel), ⟨by decide +kernel, by decide +kernel⟩, by decide +kernel, by decide⟩
theorem mv_X7_169 : MV "InterlockingBox$State" 169 mX7_enterNext 1 RX7 := ⟨md_X7_enterNext, gw_of (List.mem_of_getElem? (i := 1295) (by decide +kernel)) (by decide +kernel), gw_of (List.mem_of_getElem? (i := 1297) (by decide +kernel)) (by decide +kernel), gw_of (List.mem_of_getElem? (i := 21) (by decide +kernel)) (by decide +kernel), gw_of (List.mem_of_getElem? (i := 1298) (by decide +kernel)) (by decide +kernel)⟩
theorem md_X7_passMinute : MD mX7_passMinute 0 := ⟨gw_of (List.mem_of_getElem? (i := 31) (by decide +kernel)) (by decide +kernel), ⟨by decide +kernel, by decide +kernel⟩, by decide +kernel, by decide⟩
theorem mv_X7_166 : MV "InterlockingBox$State" 166 mX7_passMinute 0 RX7 := ⟨md_X7_passMinute, gw_of (List.mem_of_getElem? (i := 1291) (by decide +kernel)) (by decide +kernel), gw_of (List.mem_of_getElem? (i := 1292) (by decide +kernel)) (by decide +kernel), gw_of (List.mem_of_getElem? (i := 1293) (by decide +kernel)) (by decide +kernel), gw_of (List.mem_of_getElem? (i := 1294) (by decide +kernel)) (by decide +kernel)⟩
theorem md_X7_letPass : MD mX7_letPass 1 := ⟨gw_of (List.mem_of_getElem? (i := 31) (by decide +kernel)) (by decide +kernel), ⟨by decide +kernel, by decide +kernel⟩, by decide +kernel, by decide⟩
theorem mv_X9_111 : MV "InterlockingBox" 111 mX7_letPass 1 RX7 := ⟨md_X7_letPass, gw_of (List.mem_of_getElem? (i := 1287) (by decide +kernel)) (by decide +kernel), gw_of (List.mem_of_getElem? (i := 1288) (by decide +kernel)) (by decide +kernel), gw_of (List.mem_of_getElem? (i := 1289) (by decide +kernel)) (by decide +kernel), gw_of (List.mem_of_getElem? (i := 1290) (by decide +kernel)) (by decide +kernel)⟩
theorem fl_X9_114 : FL "InterlockingBox" 114 2 0 0 := ⟨RX4, TX4, 12, rfl, us_X4, by decide, rfl, by decide, Or.inr ⟨"InterlockingBox", List.mem_of_getElem? (i := 0) rfl⟩⟩
theorem tw_X9_313_390 : TW "InterlockingBox" 313 390 317 "java/lang/IndexOutOfBoundsException" "no such block" ["java/lang/RuntimeException", "java/lang/Exception"] := ⟨by decide +kernel, by decide +kernel, gw_of (List.mem_of_getElem? (i := 498) (by decide +kernel)) (by decide +kernel), gw_of (List.mem_of_getElem? (i := 46) (by decide +kernel)) (by decide +kernel), List.mem_of_getElem? (i := 0) rfl, fun w hw => ⟨(show ∀ w ∈ vx_atS "InterlockingBox" 317 "java/lang/IndexOutOfBoundsException" ["java/lang/RuntimeException", "java/lang/Exception"], w ∈ lw_tbl by decide +kernel) w hw, (show ∀ w ∈ vx_atS "InterlockingBox" 317 "java/lang/IndexOutOfBoundsException" ["java/lang/RuntimeException", "java/lang/Exception"], okW w = true by decide +kernel) w hw⟩⟩
theorem mv_X9_387 : MV "InterlockingBox" 387 mX4_has 1 RX4 := ⟨md_X4_has, gw_of (List.mem_of_getElem? (i := 494) (by decide +kernel)) (by decide +kernel), gw_of (List.mem_of_getElem? (i := 495) (by decide +kernel)) (by decide +kernel), gw_of (List.mem_of_getElem? (i := 496) (by decide +kernel)) (by decide +kernel), gw_of (List.mem_of_getElem? (i := 497) (by decide +kernel)) (by decide +kernel)⟩
theorem mv_X9_121 : MV "InterlockingBox" 121 mX4_lengthOf 1 RX4 := ⟨md_X4_lengthOf, gw_of (List.mem_of_getElem? (i := 1344) (by decide +kernel)) (by decide +kernel), gw_of (List.mem_of_getElem? (i := 639) (by decide +kernel)) (by decide +kernel), gw_of (List.mem_of_getElem? (i := 640) (by decide +kernel)) (by decide +kernel), gw_of (List.mem_of_getElem? (i := 641) (by decide +kernel)) (by decide +kernel)⟩
theorem md_X9_checkBlock : MD mX9_checkBlock 1 := ⟨gw_of (List.mem_of_getElem? (i := 30) (by decide +kernel)) (by decide +kernel), ⟨by decide +kernel, by decide +kernel⟩, by decide +kernel, by decide⟩
theorem mv_X9_117 : MV "InterlockingBox" 117 mX9_checkBlock 1 RX9 := ⟨md_X9_checkBlock, gw_of (List.mem_of_getElem? (i := 490) (by decide +kernel)) (by decide +kernel), gw_of (List.mem_of_getElem? (i := 492) (by decide +kernel)) (by decide +kernel), gw_of (List.mem_of_getElem? (i := 1) (by decide +kernel)) (by decide +kernel), gw_of (List.mem_of_getElem? (i := 493) (by decide +kernel)) (by decide +kernel)⟩
theorem tn_X9_131_133 : TN "InterlockingBox" 131 133 135 "no train occupies or has reserved the block" := ⟨gw_of (List.mem_of_getElem? (i := 547) (by decide +kernel)) (by decide +kernel), gw_of (List.mem_of_getElem? (i := 48) (by decide +kernel)) (by decide +kernel), List.mem_of_getElem? (i := 14) rfl, fun w hw => ⟨(show ∀ w ∈ (nsA "InterlockingBox" 135).filter vx_no, w ∈ lw_tbl by decide +kernel) w hw, (show ∀ w ∈ (nsA "InterlockingBox" 135).filter vx_no, okW w = true by decide +kernel) w hw⟩⟩
theorem md_X7_holderOf : MD mX7_holderOf 1 := ⟨gw_of (List.mem_of_getElem? (i := 31) (by decide +kernel)) (by decide +kernel), ⟨by decide +kernel, by decide +kernel⟩, by decide +kernel, by decide⟩
theorem mv_X9_128 : MV "InterlockingBox" 128 mX7_holderOf 1 RX7 := ⟨md_X7_holderOf, gw_of (List.mem_of_getElem? (i := 1332) (by decide +kernel)) (by decide +kernel), gw_of (List.mem_of_getElem? (i := 1333) (by decide +kernel)) (by decide +kernel), gw_of (List.mem_of_getElem? (i := 1334) (by decide +kernel)) (by decide +kernel), gw_of (List.mem_of_getElem? (i := 1335) (by decide +kernel)) (by decide +kernel)⟩
theorem tw_X9_313_395 : TW "InterlockingBox" 313 395 317 "java/lang/IndexOutOfBoundsException" "no such point" ["java/lang/RuntimeException", "java/lang/Exception"] := ⟨by decide +kernel, by decide +kernel, gw_of (List.mem_of_getElem? (i := 498) (by decide +kernel)) (by decide +kernel), gw_of (List.mem_of_getElem? (i := 46) (by decide +kernel)) (by decide +kernel), List.mem_of_getElem? (i := 15) rfl, fun w hw => ⟨(show ∀ w ∈ vx_atS "InterlockingBox" 317 "java/lang/IndexOutOfBoundsException" ["java/lang/RuntimeException", "java/lang/Exception"], w ∈ lw_tbl by decide +kernel) w hw, (show ∀ w ∈ vx_atS "InterlockingBox" 317 "java/lang/IndexOutOfBoundsException" ["java/lang/RuntimeException", "java/lang/Exception"], okW w = true by decide +kernel) w hw⟩⟩
theorem mv_X9_392 : MV "InterlockingBox" 392 mX4_hasPoint 1 RX4 := ⟨md_X4_hasPoint, gw_of (List.mem_of_getElem? (i := 1375) (by decide +kernel)) (by decide +kernel), gw_of (List.mem_of_getElem? (i := 871) (by decide +kernel)) (by decide +kernel), gw_of (List.mem_of_getElem? (i := 872) (by decide +kernel)) (by decide +kernel), gw_of (List.mem_of_getElem? (i := 873) (by decide +kernel)) (by decide +kernel)⟩
theorem mv_X9_141 : MV "InterlockingBox" 141 mX4_pointsLeft 1 RX4 := ⟨md_X4_pointsLeft, gw_of (List.mem_of_getElem? (i := 1377) (by decide +kernel)) (by decide +kernel), gw_of (List.mem_of_getElem? (i := 896) (by decide +kernel)) (by decide +kernel), gw_of (List.mem_of_getElem? (i := 897) (by decide +kernel)) (by decide +kernel), gw_of (List.mem_of_getElem? (i := 898) (by decide +kernel)) (by decide +kernel)⟩
theorem md_X9_checkPoint : MD mX9_checkPoint 1 := ⟨gw_of (List.mem_of_getElem? (i := 30) (by decide +kernel)) (by decide +kernel), ⟨by decide +kernel, by decide +kernel⟩, by decide +kernel, by decide⟩
theorem mv_X9_138 : MV "InterlockingBox" 138 mX9_checkPoint 1 RX9 := ⟨md_X9_checkPoint, gw_of (List.mem_of_getElem? (i := 1371) (by decide +kernel)) (by decide +kernel), gw_of (List.mem_of_getElem? (i := 1373) (by decide +kernel)) (by decide +kernel), gw_of (List.mem_of_getElem? (i := 24) (by decide +kernel)) (by decide +kernel), gw_of (List.mem_of_getElem? (i := 1374) (by decide +kernel)) (by decide +kernel)⟩
theorem tn_X9_131_148 : TN "InterlockingBox" 131 148 135 "the point is not locked" := ⟨gw_of (List.mem_of_getElem? (i := 547) (by decide +kernel)) (by decide +kernel), gw_of (List.mem_of_getElem? (i := 48) (by decide +kernel)) (by decide +kernel), List.mem_of_getElem? (i := 16) rfl, fun w hw => ⟨(show ∀ w ∈ (nsA "InterlockingBox" 135).filter vx_no, w ∈ lw_tbl by decide +kernel) w hw, (show ∀ w ∈ (nsA "InterlockingBox" 135).filter vx_no, okW w = true by decide +kernel) w hw⟩⟩
theorem mv_X9_145 : MV "InterlockingBox" 145 mX7_lockerOf 1 RX7 := ⟨md_X7_lockerOf, gw_of (List.mem_of_getElem? (i := 1385) (by decide +kernel)) (by decide +kernel), gw_of (List.mem_of_getElem? (i := 875) (by decide +kernel)) (by decide +kernel), gw_of (List.mem_of_getElem? (i := 876) (by decide +kernel)) (by decide +kernel), gw_of (List.mem_of_getElem? (i := 877) (by decide +kernel)) (by decide +kernel)⟩
theorem tn_X9_131_163 : TN "InterlockingBox" 131 163 135 "there is no route" := ⟨gw_of (List.mem_of_getElem? (i := 547) (by decide +kernel)) (by decide +kernel), gw_of (List.mem_of_getElem? (i := 48) (by decide +kernel)) (by decide +kernel), List.mem_of_getElem? (i := 1) rfl, fun w hw => ⟨(show ∀ w ∈ (nsA "InterlockingBox" 135).filter vx_no, w ∈ lw_tbl by decide +kernel) w hw, (show ∀ w ∈ (nsA "InterlockingBox" 135).filter vx_no, okW w = true by decide +kernel) w hw⟩⟩
theorem mv_X9_154 : MV "InterlockingBox" 154 mX4_routeBlocks 2 RX4 := ⟨md_X4_routeBlocks, gw_of (List.mem_of_getElem? (i := 542) (by decide +kernel)) (by decide +kernel), gw_of (List.mem_of_getElem? (i := 543) (by decide +kernel)) (by decide +kernel), gw_of (List.mem_of_getElem? (i := 544) (by decide +kernel)) (by decide +kernel), gw_of (List.mem_of_getElem? (i := 545) (by decide +kernel)) (by decide +kernel)⟩
theorem mv_X9_157 : MV "InterlockingBox" 157 mX4_totalLength 1 RX4 := ⟨md_X4_totalLength, gw_of (List.mem_of_getElem? (i := 563) (by decide +kernel)) (by decide +kernel), gw_of (List.mem_of_getElem? (i := 564) (by decide +kernel)) (by decide +kernel), gw_of (List.mem_of_getElem? (i := 565) (by decide +kernel)) (by decide +kernel), gw_of (List.mem_of_getElem? (i := 566) (by decide +kernel)) (by decide +kernel)⟩
theorem md_X9_checkRoute : MD mX9_checkRoute 2 := ⟨gw_of (List.mem_of_getElem? (i := 30) (by decide +kernel)) (by decide +kernel), ⟨by decide +kernel, by decide +kernel⟩, by decide +kernel, by decide⟩
theorem mv_X9_150 : MV "InterlockingBox" 150 mX9_checkRoute 2 RX9 := ⟨md_X9_checkRoute, gw_of (List.mem_of_getElem? (i := 538) (by decide +kernel)) (by decide +kernel), gw_of (List.mem_of_getElem? (i := 540) (by decide +kernel)) (by decide +kernel), gw_of (List.mem_of_getElem? (i := 2) (by decide +kernel)) (by decide +kernel), gw_of (List.mem_of_getElem? (i := 541) (by decide +kernel)) (by decide +kernel)⟩
theorem gl_X4_112 : Cond.methodLink "InterlockingBox$Line" 112 Lib.Math.min.name ∈ gw := gw_of (List.mem_of_getElem? (i := 1526) (by decide +kernel)) (by decide +kernel)
theorem mv_X4_109 : MV "InterlockingBox$Line" 109 mX4_lengthOf 1 RX4 := ⟨md_X4_lengthOf, gw_of (List.mem_of_getElem? (i := 1525) (by decide +kernel)) (by decide +kernel), gw_of (List.mem_of_getElem? (i := 639) (by decide +kernel)) (by decide +kernel), gw_of (List.mem_of_getElem? (i := 640) (by decide +kernel)) (by decide +kernel), gw_of (List.mem_of_getElem? (i := 641) (by decide +kernel)) (by decide +kernel)⟩
theorem md_X4_tryPaths : MD mX4_tryPaths 5 := ⟨gw_of (List.mem_of_getElem? (i := 32) (by decide +kernel)) (by decide +kernel), ⟨by decide +kernel, by decide +kernel⟩, by decide +kernel, by decide⟩
theorem ms_X4_103 : MS "InterlockingBox$Line" 103 mX4_tryPaths 5 := ⟨md_X4_tryPaths, gw_of (List.mem_of_getElem? (i := 1522) (by decide +kernel)) (by decide +kernel), gw_of (List.mem_of_getElem? (i := 1523) (by decide +kernel)) (by decide +kernel), gw_of (List.mem_of_getElem? (i := 1524) (by decide +kernel)) (by decide +kernel)⟩
theorem md_X4_shortestPath : MD mX4_shortestPath 2 := ⟨gw_of (List.mem_of_getElem? (i := 32) (by decide +kernel)) (by decide +kernel), ⟨by decide +kernel, by decide +kernel⟩, by decide +kernel, by decide⟩
theorem mv_X9_160 : MV "InterlockingBox" 160 mX4_shortestPath 2 RX4 := ⟨md_X4_shortestPath, gw_of (List.mem_of_getElem? (i := 1518) (by decide +kernel)) (by decide +kernel), gw_of (List.mem_of_getElem? (i := 1519) (by decide +kernel)) (by decide +kernel), gw_of (List.mem_of_getElem? (i := 1520) (by decide +kernel)) (by decide +kernel), gw_of (List.mem_of_getElem? (i := 1521) (by decide +kernel)) (by decide +kernel)⟩
theorem mv_X4_95 : MV "InterlockingBox$Line" 95 mX4_nextOnRoute 2 RX4 := ⟨md_X4_nextOnRoute, gw_of (List.mem_of_getElem? (i := 1538) (by decide +kernel)) (by decide +kernel), gw_of (List.mem_of_getElem? (i := 957) (by decide +kernel)) (by decide +kernel), gw_of (List.mem_of_getElem? (i := 958) (by decide +kernel)) (by decide +kernel), gw_of (List.mem_of_getElem? (i := 959) (by decide +kernel)) (by decide +kernel)⟩
theorem tn_X9_131_168 : TN "InterlockingBox" 131 168 135 "the route has no such position" := ⟨gw_of (List.mem_of_getElem? (i := 547) (by decide +kernel)) (by decide +kernel), gw_of (List.mem_of_getElem? (i := 48) (by decide +kernel)) (by decide +kernel), List.mem_of_getElem? (i := 18) rfl, fun w hw => ⟨(show ∀ w ∈ (nsA "InterlockingBox" 135).filter vx_no, w ∈ lw_tbl by decide +kernel) w hw, (show ∀ w ∈ (nsA "InterlockingBox" 135).filter vx_no, okW w = true by decide +kernel) w hw⟩⟩
theorem md_X4_blockOnRoute : MD mX4_blockOnRoute 3 := ⟨gw_of (List.mem_of_getElem? (i := 32) (by decide +kernel)) (by decide +kernel), ⟨by decide +kernel, by decide +kernel⟩, by decide +kernel, by decide⟩
theorem mv_X9_165 : MV "InterlockingBox" 165 mX4_blockOnRoute 3 RX4 := ⟨md_X4_blockOnRoute, gw_of (List.mem_of_getElem? (i := 1534) (by decide +kernel)) (by decide +kernel), gw_of (List.mem_of_getElem? (i := 1535) (by decide +kernel)) (by decide +kernel), gw_of (List.mem_of_getElem? (i := 1536) (by decide +kernel)) (by decide +kernel), gw_of (List.mem_of_getElem? (i := 1537) (by decide +kernel)) (by decide +kernel)⟩
theorem md_X4_countPaths : MD mX4_countPaths 5 := ⟨gw_of (List.mem_of_getElem? (i := 32) (by decide +kernel)) (by decide +kernel), ⟨by decide +kernel, by decide +kernel⟩, by decide +kernel, by decide⟩
theorem ms_X4_99 : MS "InterlockingBox$Line" 99 mX4_countPaths 5 := ⟨md_X4_countPaths, gw_of (List.mem_of_getElem? (i := 1356) (by decide +kernel)) (by decide +kernel), gw_of (List.mem_of_getElem? (i := 1357) (by decide +kernel)) (by decide +kernel), gw_of (List.mem_of_getElem? (i := 1358) (by decide +kernel)) (by decide +kernel)⟩
theorem md_X4_isStem : MD mX4_isStem 1 := ⟨gw_of (List.mem_of_getElem? (i := 32) (by decide +kernel)) (by decide +kernel), ⟨by decide +kernel, by decide +kernel⟩, by decide +kernel, by decide⟩
theorem mv_X4_106 : MV "InterlockingBox$Line" 106 mX4_isStem 1 RX4 := ⟨md_X4_isStem, gw_of (List.mem_of_getElem? (i := 1359) (by decide +kernel)) (by decide +kernel), gw_of (List.mem_of_getElem? (i := 1360) (by decide +kernel)) (by decide +kernel), gw_of (List.mem_of_getElem? (i := 1361) (by decide +kernel)) (by decide +kernel), gw_of (List.mem_of_getElem? (i := 1362) (by decide +kernel)) (by decide +kernel)⟩
theorem md_X4_numberOfPaths : MD mX4_numberOfPaths 2 := ⟨gw_of (List.mem_of_getElem? (i := 32) (by decide +kernel)) (by decide +kernel), ⟨by decide +kernel, by decide +kernel⟩, by decide +kernel, by decide⟩
theorem mv_X9_170 : MV "InterlockingBox" 170 mX4_numberOfPaths 2 RX4 := ⟨md_X4_numberOfPaths, gw_of (List.mem_of_getElem? (i := 1352) (by decide +kernel)) (by decide +kernel), gw_of (List.mem_of_getElem? (i := 1353) (by decide +kernel)) (by decide +kernel), gw_of (List.mem_of_getElem? (i := 1354) (by decide +kernel)) (by decide +kernel), gw_of (List.mem_of_getElem? (i := 1355) (by decide +kernel)) (by decide +kernel)⟩
theorem fl_X9_173 : FL "InterlockingBox" 173 5 3 0 := ⟨RX7, TX7, 9, rfl, us_X7, by decide, rfl, by decide, Or.inr ⟨"InterlockingBox", List.mem_of_getElem? (i := 1) rfl⟩⟩
theorem fl_X9_183 : FL "InterlockingBox" 183 6 1 0 := ⟨RX8, TX8, 6, rfl, us_X8, by decide, rfl, by decide, Or.inr ⟨"InterlockingBox", List.mem_of_getElem? (i := 2) rfl⟩⟩
theorem md_X9_presentTrain : MD mX9_presentTrain 1 := ⟨gw_of (List.mem_of_getElem? (i := 30) (by decide +kernel)) (by decide +kernel), ⟨by decide +kernel, by decide +kernel⟩, by decide +kernel, by decide⟩
theorem mv_X9_180 : MV "InterlockingBox" 180 mX9_presentTrain 1 RX9 := ⟨md_X9_presentTrain, gw_of (List.mem_of_getElem? (i := 575) (by decide +kernel)) (by decide +kernel), gw_of (List.mem_of_getElem? (i := 577) (by decide +kernel)) (by decide +kernel), gw_of (List.mem_of_getElem? (i := 3) (by decide +kernel)) (by decide +kernel), gw_of (List.mem_of_getElem? (i := 578) (by decide +kernel)) (by decide +kernel)⟩
theorem fl_X9_188 : FL "InterlockingBox" 188 6 2 0 := ⟨RX8, TX8, 6, rfl, us_X8, by decide, rfl, by decide, Or.inr ⟨"InterlockingBox", List.mem_of_getElem? (i := 3) rfl⟩⟩
theorem mv_X9_191 : MV "InterlockingBox" 191 mX8_isRouted 0 RX8 := ⟨md_X8_isRouted, gw_of (List.mem_of_getElem? (i := 594) (by decide +kernel)) (by decide +kernel), gw_of (List.mem_of_getElem? (i := 595) (by decide +kernel)) (by decide +kernel), gw_of (List.mem_of_getElem? (i := 596) (by decide +kernel)) (by decide +kernel), gw_of (List.mem_of_getElem? (i := 597) (by decide +kernel)) (by decide +kernel)⟩
theorem mv_X9_195 : MV "InterlockingBox" 195 mX7_canSet 1 RX7 := ⟨md_X7_canSet, gw_of (List.mem_of_getElem? (i := 605) (by decide +kernel)) (by decide +kernel), gw_of (List.mem_of_getElem? (i := 606) (by decide +kernel)) (by decide +kernel), gw_of (List.mem_of_getElem? (i := 607) (by decide +kernel)) (by decide +kernel), gw_of (List.mem_of_getElem? (i := 608) (by decide +kernel)) (by decide +kernel)⟩
theorem tn_X9_131_397 : TN "InterlockingBox" 131 397 135 "the train has no set route" := ⟨gw_of (List.mem_of_getElem? (i := 547) (by decide +kernel)) (by decide +kernel), gw_of (List.mem_of_getElem? (i := 48) (by decide +kernel)) (by decide +kernel), List.mem_of_getElem? (i := 3) rfl, fun w hw => ⟨(show ∀ w ∈ (nsA "InterlockingBox" 135).filter vx_no, w ∈ lw_tbl by decide +kernel) w hw, (show ∀ w ∈ (nsA "InterlockingBox" 135).filter vx_no, okW w = true by decide +kernel) w hw⟩⟩
theorem fl_X9_202 : FL "InterlockingBox" 202 6 4 0 := ⟨RX8, TX8, 6, rfl, us_X8, by decide, rfl, by decide, Or.inr ⟨"InterlockingBox", List.mem_of_getElem? (i := 4) rfl⟩⟩
theorem fl_X9_205 : FL "InterlockingBox" 205 5 7 0 := ⟨RX7, TX7, 9, rfl, us_X7, by decide, rfl, by decide, Or.inr ⟨"InterlockingBox", List.mem_of_getElem? (i := 5) rfl⟩⟩
theorem md_X9_routedTrain : MD mX9_routedTrain 1 := ⟨gw_of (List.mem_of_getElem? (i := 30) (by decide +kernel)) (by decide +kernel), ⟨by decide +kernel, by decide +kernel⟩, by decide +kernel, by decide⟩
theorem mv_X9_199 : MV "InterlockingBox" 199 mX9_routedTrain 1 RX9 := ⟨md_X9_routedTrain, gw_of (List.mem_of_getElem? (i := 618) (by decide +kernel)) (by decide +kernel), gw_of (List.mem_of_getElem? (i := 620) (by decide +kernel)) (by decide +kernel), gw_of (List.mem_of_getElem? (i := 4) (by decide +kernel)) (by decide +kernel), gw_of (List.mem_of_getElem? (i := 621) (by decide +kernel)) (by decide +kernel)⟩
theorem md_X7_minutesToGo : MD mX7_minutesToGo 1 := ⟨gw_of (List.mem_of_getElem? (i := 31) (by decide +kernel)) (by decide +kernel), ⟨by decide +kernel, by decide +kernel⟩, by decide +kernel, by decide⟩
theorem mv_X9_208 : MV "InterlockingBox" 208 mX7_minutesToGo 1 RX7 := ⟨md_X7_minutesToGo, gw_of (List.mem_of_getElem? (i := 630) (by decide +kernel)) (by decide +kernel), gw_of (List.mem_of_getElem? (i := 631) (by decide +kernel)) (by decide +kernel), gw_of (List.mem_of_getElem? (i := 632) (by decide +kernel)) (by decide +kernel), gw_of (List.mem_of_getElem? (i := 633) (by decide +kernel)) (by decide +kernel)⟩
theorem fl_X9_212 : FL "InterlockingBox" 212 6 0 0 := ⟨RX8, TX8, 6, rfl, us_X8, by decide, rfl, by decide, Or.inr ⟨"InterlockingBox", List.mem_of_getElem? (i := 6) rfl⟩⟩
theorem fl_X9_19 : FL "InterlockingBox" 19 0 2 1 := ⟨RX9, TX9, 12, rfl, us_X9, by decide, rfl, by decide, Or.inl (gw_of (List.mem_of_getElem? (i := 333) (by decide +kernel)) (by decide +kernel))⟩
theorem mv_X9_218 : MV "InterlockingBox" 218 mX7_passMinute 0 RX7 := ⟨md_X7_passMinute, gw_of (List.mem_of_getElem? (i := 1428) (by decide +kernel)) (by decide +kernel), gw_of (List.mem_of_getElem? (i := 1292) (by decide +kernel)) (by decide +kernel), gw_of (List.mem_of_getElem? (i := 1293) (by decide +kernel)) (by decide +kernel), gw_of (List.mem_of_getElem? (i := 1294) (by decide +kernel)) (by decide +kernel)⟩
theorem mv_X9_215 : MV "InterlockingBox" 215 mX7_copyFrom 1 RX7 := ⟨md_X7_copyFrom, gw_of (List.mem_of_getElem? (i := 1427) (by decide +kernel)) (by decide +kernel), gw_of (List.mem_of_getElem? (i := 702) (by decide +kernel)) (by decide +kernel), gw_of (List.mem_of_getElem? (i := 703) (by decide +kernel)) (by decide +kernel), gw_of (List.mem_of_getElem? (i := 704) (by decide +kernel)) (by decide +kernel)⟩
theorem fl_X9_221 : FL "InterlockingBox" 221 6 5 0 := ⟨RX8, TX8, 6, rfl, us_X8, by decide, rfl, by decide, Or.inr ⟨"InterlockingBox", List.mem_of_getElem? (i := 7) rfl⟩⟩
theorem tn_X9_131_227 : TN "InterlockingBox" 131 227 135 "the queue has no such position" := ⟨gw_of (List.mem_of_getElem? (i := 547) (by decide +kernel)) (by decide +kernel), gw_of (List.mem_of_getElem? (i := 48) (by decide +kernel)) (by decide +kernel), List.mem_of_getElem? (i := 4) rfl, fun w hw => ⟨(show ∀ w ∈ (nsA "InterlockingBox" 135).filter vx_no, w ∈ lw_tbl by decide +kernel) w hw, (show ∀ w ∈ (nsA "InterlockingBox" 135).filter vx_no, okW w = true by decide +kernel) w hw⟩⟩
theorem md_X7_inQueue : MD mX7_inQueue 1 := ⟨gw_of (List.mem_of_getElem? (i := 31) (by decide +kernel)) (by decide +kernel), ⟨by decide +kernel, by decide +kernel⟩, by decide +kernel, by decide⟩
theorem mv_X9_224 : MV "InterlockingBox" 224 mX7_inQueue 1 RX7 := ⟨md_X7_inQueue, gw_of (List.mem_of_getElem? (i := 657) (by decide +kernel)) (by decide +kernel), gw_of (List.mem_of_getElem? (i := 658) (by decide +kernel)) (by decide +kernel), gw_of (List.mem_of_getElem? (i := 659) (by decide +kernel)) (by decide +kernel), gw_of (List.mem_of_getElem? (i := 660) (by decide +kernel)) (by decide +kernel)⟩
theorem md_X7_routeOf : MD mX7_routeOf 1 := ⟨gw_of (List.mem_of_getElem? (i := 31) (by decide +kernel)) (by decide +kernel), ⟨by decide +kernel, by decide +kernel⟩, by decide +kernel, by decide⟩
theorem mv_X7_181 : MV "InterlockingBox$State" 181 mX7_routeOf 1 RX7 := ⟨md_X7_routeOf, gw_of (List.mem_of_getElem? (i := 1404) (by decide +kernel)) (by decide +kernel), gw_of (List.mem_of_getElem? (i := 1405) (by decide +kernel)) (by decide +kernel), gw_of (List.mem_of_getElem? (i := 1406) (by decide +kernel)) (by decide +kernel), gw_of (List.mem_of_getElem? (i := 1407) (by decide +kernel)) (by decide +kernel)⟩
theorem md_X7_waits : MD mX7_waits 2 := ⟨gw_of (List.mem_of_getElem? (i := 31) (by decide +kernel)) (by decide +kernel), ⟨by decide +kernel, by decide +kernel⟩, by decide +kernel, by decide⟩
theorem mv_X9_229 : MV "InterlockingBox" 229 mX7_waits 2 RX7 := ⟨md_X7_waits, gw_of (List.mem_of_getElem? (i := 1400) (by decide +kernel)) (by decide +kernel), gw_of (List.mem_of_getElem? (i := 1401) (by decide +kernel)) (by decide +kernel), gw_of (List.mem_of_getElem? (i := 1402) (by decide +kernel)) (by decide +kernel), gw_of (List.mem_of_getElem? (i := 1403) (by decide +kernel)) (by decide +kernel)⟩
theorem gl_X6_34 : Cond.methodLink "InterlockingBox$Relation" 34 Lib.Math.min.name ∈ gw := gw_of (List.mem_of_getElem? (i := 1552) (by decide +kernel)) (by decide +kernel)
theorem gl_X6_40 : Cond.methodLink "InterlockingBox$Relation" 40 Lib.Math.max.name ∈ gw := gw_of (List.mem_of_getElem? (i := 1553) (by decide +kernel)) (by decide +kernel)
theorem gst_max : Cond.static Lib.Math.max.name ∈ gw := gw_of (List.mem_of_getElem? (i := 997) (by decide +kernel)) (by decide +kernel)
theorem gco_max : Cond.code Lib.Math.max.name Lib.Math.max.code 2 (some .int) ∈ gw := gw_of (List.mem_of_getElem? (i := 998) (by decide +kernel)) (by decide +kernel)
theorem fl_X6_15 : FL "InterlockingBox$Relation" 15 4 1 1 := ⟨RX6, TX6, 7, rfl, us_X6, by decide, rfl, by decide, Or.inl (gw_of (List.mem_of_getElem? (i := 243) (by decide +kernel)) (by decide +kernel))⟩
theorem ms_X6_43 : MS "InterlockingBox$Relation" 43 mJ7_fill_53178 2 := ⟨md_J7_fill_53178, gw_of (List.mem_of_getElem? (i := 1554) (by decide +kernel)) (by decide +kernel), gw_of (List.mem_of_getElem? (i := 730) (by decide +kernel)) (by decide +kernel), gw_of (List.mem_of_getElem? (i := 731) (by decide +kernel)) (by decide +kernel)⟩
theorem fl_X6_9 : FL "InterlockingBox$Relation" 9 4 0 0 := ⟨RX6, TX6, 7, rfl, us_X6, by decide, rfl, by decide, Or.inl (gw_of (List.mem_of_getElem? (i := 242) (by decide +kernel)) (by decide +kernel))⟩
theorem md_X6_relate : MD mX6_relate 2 := ⟨gw_of (List.mem_of_getElem? (i := 35) (by decide +kernel)) (by decide +kernel), ⟨by decide +kernel, by decide +kernel⟩, by decide +kernel, by decide⟩
theorem mv_X7_193 : MV "InterlockingBox$State" 193 mX6_relate 2 RX6 := ⟨md_X6_relate, gw_of (List.mem_of_getElem? (i := 1556) (by decide +kernel)) (by decide +kernel), gw_of (List.mem_of_getElem? (i := 1557) (by decide +kernel)) (by decide +kernel), gw_of (List.mem_of_getElem? (i := 1558) (by decide +kernel)) (by decide +kernel), gw_of (List.mem_of_getElem? (i := 1559) (by decide +kernel)) (by decide +kernel)⟩
theorem mv_X7_189 : MV "InterlockingBox$State" 189 mX7_waits 2 RX7 := ⟨md_X7_waits, gw_of (List.mem_of_getElem? (i := 1555) (by decide +kernel)) (by decide +kernel), gw_of (List.mem_of_getElem? (i := 1401) (by decide +kernel)) (by decide +kernel), gw_of (List.mem_of_getElem? (i := 1402) (by decide +kernel)) (by decide +kernel), gw_of (List.mem_of_getElem? (i := 1403) (by decide +kernel)) (by decide +kernel)⟩
theorem md_X6_begin : MD mX6_begin 1 := ⟨gw_of (List.mem_of_getElem? (i := 35) (by decide +kernel)) (by decide +kernel), ⟨by decide +kernel, by decide +kernel⟩, by decide +kernel, by decide⟩
theorem mv_X7_185 : MV "InterlockingBox$State" 185 mX6_begin 1 RX6 := ⟨md_X6_begin, gw_of (List.mem_of_getElem? (i := 1548) (by decide +kernel)) (by decide +kernel), gw_of (List.mem_of_getElem? (i := 1549) (by decide +kernel)) (by decide +kernel), gw_of (List.mem_of_getElem? (i := 1550) (by decide +kernel)) (by decide +kernel), gw_of (List.mem_of_getElem? (i := 1551) (by decide +kernel)) (by decide +kernel)⟩
theorem fl_X6_25 : FL "InterlockingBox$Relation" 25 4 4 0 := ⟨RX6, TX6, 7, rfl, us_X6, by decide, rfl, by decide, Or.inl (gw_of (List.mem_of_getElem? (i := 246) (by decide +kernel)) (by decide +kernel))⟩
theorem fl_X6_19 : FL "InterlockingBox$Relation" 19 4 2 1 := ⟨RX6, TX6, 7, rfl, us_X6, by decide, rfl, by decide, Or.inl (gw_of (List.mem_of_getElem? (i := 244) (by decide +kernel)) (by decide +kernel))⟩
theorem fl_X6_22 : FL "InterlockingBox$Relation" 22 4 3 1 := ⟨RX6, TX6, 7, rfl, us_X6, by decide, rfl, by decide, Or.inl (gw_of (List.mem_of_getElem? (i := 245) (by decide +kernel)) (by decide +kernel))⟩
theorem fl_X6_28 : FL "InterlockingBox$Relation" 28 4 5 0 := ⟨RX6, TX6, 7, rfl, us_X6, by decide, rfl, by decide, Or.inl (gw_of (List.mem_of_getElem? (i := 247) (by decide +kernel)) (by decide +kernel))⟩
theorem fl_X6_31 : FL "InterlockingBox$Relation" 31 4 6 0 := ⟨RX6, TX6, 7, rfl, us_X6, by decide, rfl, by decide, Or.inl (gw_of (List.mem_of_getElem? (i := 248) (by decide +kernel)) (by decide +kernel))⟩
theorem msn_X6_57 : MSN "InterlockingBox$Relation" 57 mX9_contains 2 := ⟨md_X9_contains, ⟨"InterlockingBox", List.mem_of_getElem? (i := 3) (by decide +kernel)⟩, gw_of (List.mem_of_getElem? (i := 516) (by decide +kernel)) (by decide +kernel), gw_of (List.mem_of_getElem? (i := 517) (by decide +kernel)) (by decide +kernel)⟩
theorem md_X6_closeSet : MD mX6_closeSet 1 := ⟨gw_of (List.mem_of_getElem? (i := 35) (by decide +kernel)) (by decide +kernel), ⟨by decide +kernel, by decide +kernel⟩, by decide +kernel, by decide⟩
theorem mv_X6_61 : MV "InterlockingBox$Relation" 61 mX6_closeSet 1 RX6 := ⟨md_X6_closeSet, gw_of (List.mem_of_getElem? (i := 1572) (by decide +kernel)) (by decide +kernel), gw_of (List.mem_of_getElem? (i := 1574) (by decide +kernel)) (by decide +kernel), gw_of (List.mem_of_getElem? (i := 27) (by decide +kernel)) (by decide +kernel), gw_of (List.mem_of_getElem? (i := 1575) (by decide +kernel)) (by decide +kernel)⟩
theorem md_X6_search : MD mX6_search 3 := ⟨gw_of (List.mem_of_getElem? (i := 35) (by decide +kernel)) (by decide +kernel), ⟨by decide +kernel, by decide +kernel⟩, by decide +kernel, by decide⟩
theorem ms_X6_49 : MS "InterlockingBox$Relation" 49 mX6_search 3 := ⟨md_X6_search, gw_of (List.mem_of_getElem? (i := 1564) (by decide +kernel)) (by decide +kernel), gw_of (List.mem_of_getElem? (i := 1565) (by decide +kernel)) (by decide +kernel), gw_of (List.mem_of_getElem? (i := 1566) (by decide +kernel)) (by decide +kernel)⟩
theorem md_X6_enter : MD mX6_enter 1 := ⟨gw_of (List.mem_of_getElem? (i := 35) (by decide +kernel)) (by decide +kernel), ⟨by decide +kernel, by decide +kernel⟩, by decide +kernel, by decide⟩
theorem mv_X6_53 : MV "InterlockingBox$Relation" 53 mX6_enter 1 RX6 := ⟨md_X6_enter, gw_of (List.mem_of_getElem? (i := 1567) (by decide +kernel)) (by decide +kernel), gw_of (List.mem_of_getElem? (i := 1569) (by decide +kernel)) (by decide +kernel), gw_of (List.mem_of_getElem? (i := 26) (by decide +kernel)) (by decide +kernel), gw_of (List.mem_of_getElem? (i := 1570) (by decide +kernel)) (by decide +kernel)⟩
theorem fl_X9_32 : FL "InterlockingBox" 32 0 4 1 := ⟨RX9, TX9, 12, rfl, us_X9, by decide, rfl, by decide, Or.inl (gw_of (List.mem_of_getElem? (i := 335) (by decide +kernel)) (by decide +kernel))⟩
theorem md_X6_inCircles : MD mX6_inCircles 0 := ⟨gw_of (List.mem_of_getElem? (i := 35) (by decide +kernel)) (by decide +kernel), ⟨by decide +kernel, by decide +kernel⟩, by decide +kernel, by decide⟩
theorem mv_X9_237 : MV "InterlockingBox" 237 mX6_inCircles 0 RX6 := ⟨md_X6_inCircles, gw_of (List.mem_of_getElem? (i := 1560) (by decide +kernel)) (by decide +kernel), gw_of (List.mem_of_getElem? (i := 1561) (by decide +kernel)) (by decide +kernel), gw_of (List.mem_of_getElem? (i := 1562) (by decide +kernel)) (by decide +kernel), gw_of (List.mem_of_getElem? (i := 1563) (by decide +kernel)) (by decide +kernel)⟩
theorem md_X7_relateWaiting : MD mX7_relateWaiting 1 := ⟨gw_of (List.mem_of_getElem? (i := 31) (by decide +kernel)) (by decide +kernel), ⟨by decide +kernel, by decide +kernel⟩, by decide +kernel, by decide⟩
theorem mv_X9_233 : MV "InterlockingBox" 233 mX7_relateWaiting 1 RX7 := ⟨md_X7_relateWaiting, gw_of (List.mem_of_getElem? (i := 1544) (by decide +kernel)) (by decide +kernel), gw_of (List.mem_of_getElem? (i := 1545) (by decide +kernel)) (by decide +kernel), gw_of (List.mem_of_getElem? (i := 1546) (by decide +kernel)) (by decide +kernel), gw_of (List.mem_of_getElem? (i := 1547) (by decide +kernel)) (by decide +kernel)⟩
theorem md_X6_inCirclesByPairs : MD mX6_inCirclesByPairs 0 := ⟨gw_of (List.mem_of_getElem? (i := 35) (by decide +kernel)) (by decide +kernel), ⟨by decide +kernel, by decide +kernel⟩, by decide +kernel, by decide⟩
theorem mv_X9_241 : MV "InterlockingBox" 241 mX6_inCirclesByPairs 0 RX6 := ⟨md_X6_inCirclesByPairs, gw_of (List.mem_of_getElem? (i := 1596) (by decide +kernel)) (by decide +kernel), gw_of (List.mem_of_getElem? (i := 1597) (by decide +kernel)) (by decide +kernel), gw_of (List.mem_of_getElem? (i := 1598) (by decide +kernel)) (by decide +kernel), gw_of (List.mem_of_getElem? (i := 1599) (by decide +kernel)) (by decide +kernel)⟩
theorem md_X7_routesMeet : MD mX7_routesMeet 2 := ⟨gw_of (List.mem_of_getElem? (i := 31) (by decide +kernel)) (by decide +kernel), ⟨by decide +kernel, by decide +kernel⟩, by decide +kernel, by decide⟩
theorem mv_X9_249 : MV "InterlockingBox" 249 mX7_routesMeet 2 RX7 := ⟨md_X7_routesMeet, gw_of (List.mem_of_getElem? (i := 1416) (by decide +kernel)) (by decide +kernel), gw_of (List.mem_of_getElem? (i := 1417) (by decide +kernel)) (by decide +kernel), gw_of (List.mem_of_getElem? (i := 1418) (by decide +kernel)) (by decide +kernel), gw_of (List.mem_of_getElem? (i := 1419) (by decide +kernel)) (by decide +kernel)⟩
theorem tw_X9_244_246 : TW "InterlockingBox" 244 246 248 "java/lang/IllegalArgumentException" "a train and itself" ["java/lang/RuntimeException", "java/lang/Exception"] := ⟨by decide +kernel, by decide +kernel, gw_of (List.mem_of_getElem? (i := 749) (by decide +kernel)) (by decide +kernel), gw_of (List.mem_of_getElem? (i := 51) (by decide +kernel)) (by decide +kernel), List.mem_of_getElem? (i := 17) rfl, fun w hw => ⟨(show ∀ w ∈ vx_atS "InterlockingBox" 248 "java/lang/IllegalArgumentException" ["java/lang/RuntimeException", "java/lang/Exception"], w ∈ lw_tbl by decide +kernel) w hw, (show ∀ w ∈ vx_atS "InterlockingBox" 248 "java/lang/IllegalArgumentException" ["java/lang/RuntimeException", "java/lang/Exception"], okW w = true by decide +kernel) w hw⟩⟩
theorem mv_X7_196 : MV "InterlockingBox$State" 196 mX7_routesMeet 2 RX7 := ⟨md_X7_routesMeet, gw_of (List.mem_of_getElem? (i := 1584) (by decide +kernel)) (by decide +kernel), gw_of (List.mem_of_getElem? (i := 1417) (by decide +kernel)) (by decide +kernel), gw_of (List.mem_of_getElem? (i := 1418) (by decide +kernel)) (by decide +kernel), gw_of (List.mem_of_getElem? (i := 1419) (by decide +kernel)) (by decide +kernel)⟩
theorem md_X6_takeOrLeave : MD mX6_takeOrLeave 3 := ⟨gw_of (List.mem_of_getElem? (i := 35) (by decide +kernel)) (by decide +kernel), ⟨by decide +kernel, by decide +kernel⟩, by decide +kernel, by decide⟩
theorem ms_X6_64 : MS "InterlockingBox$Relation" 64 mX6_takeOrLeave 3 := ⟨md_X6_takeOrLeave, gw_of (List.mem_of_getElem? (i := 1589) (by decide +kernel)) (by decide +kernel), gw_of (List.mem_of_getElem? (i := 1590) (by decide +kernel)) (by decide +kernel), gw_of (List.mem_of_getElem? (i := 1591) (by decide +kernel)) (by decide +kernel)⟩
theorem md_X6_mostUnrelated : MD mX6_mostUnrelated 0 := ⟨gw_of (List.mem_of_getElem? (i := 35) (by decide +kernel)) (by decide +kernel), ⟨by decide +kernel, by decide +kernel⟩, by decide +kernel, by decide⟩
theorem mv_X9_255 : MV "InterlockingBox" 255 mX6_mostUnrelated 0 RX6 := ⟨md_X6_mostUnrelated, gw_of (List.mem_of_getElem? (i := 1585) (by decide +kernel)) (by decide +kernel), gw_of (List.mem_of_getElem? (i := 1586) (by decide +kernel)) (by decide +kernel), gw_of (List.mem_of_getElem? (i := 1587) (by decide +kernel)) (by decide +kernel), gw_of (List.mem_of_getElem? (i := 1588) (by decide +kernel)) (by decide +kernel)⟩
theorem md_X7_relateConflicts : MD mX7_relateConflicts 1 := ⟨gw_of (List.mem_of_getElem? (i := 31) (by decide +kernel)) (by decide +kernel), ⟨by decide +kernel, by decide +kernel⟩, by decide +kernel, by decide⟩
theorem mv_X9_252 : MV "InterlockingBox" 252 mX7_relateConflicts 1 RX7 := ⟨md_X7_relateConflicts, gw_of (List.mem_of_getElem? (i := 1580) (by decide +kernel)) (by decide +kernel), gw_of (List.mem_of_getElem? (i := 1581) (by decide +kernel)) (by decide +kernel), gw_of (List.mem_of_getElem? (i := 1582) (by decide +kernel)) (by decide +kernel), gw_of (List.mem_of_getElem? (i := 1583) (by decide +kernel)) (by decide +kernel)⟩
theorem ms_X6_72 : MS "InterlockingBox$Relation" 72 mJ6_bitCount_0f7a4 1 := ⟨md_J6_bitCount_0f7a4, gw_of (List.mem_of_getElem? (i := 1612) (by decide +kernel)) (by decide +kernel), gw_of (List.mem_of_getElem? (i := 843) (by decide +kernel)) (by decide +kernel), gw_of (List.mem_of_getElem? (i := 844) (by decide +kernel)) (by decide +kernel)⟩
theorem md_X6_isUnrelated : MD mX6_isUnrelated 1 := ⟨gw_of (List.mem_of_getElem? (i := 35) (by decide +kernel)) (by decide +kernel), ⟨by decide +kernel, by decide +kernel⟩, by decide +kernel, by decide⟩
theorem mv_X6_68 : MV "InterlockingBox$Relation" 68 mX6_isUnrelated 1 RX6 := ⟨md_X6_isUnrelated, gw_of (List.mem_of_getElem? (i := 1608) (by decide +kernel)) (by decide +kernel), gw_of (List.mem_of_getElem? (i := 1610) (by decide +kernel)) (by decide +kernel), gw_of (List.mem_of_getElem? (i := 28) (by decide +kernel)) (by decide +kernel), gw_of (List.mem_of_getElem? (i := 1611) (by decide +kernel)) (by decide +kernel)⟩
theorem md_X6_mostUnrelatedBySets : MD mX6_mostUnrelatedBySets 0 := ⟨gw_of (List.mem_of_getElem? (i := 35) (by decide +kernel)) (by decide +kernel), ⟨by decide +kernel, by decide +kernel⟩, by decide +kernel, by decide⟩
theorem mv_X9_258 : MV "InterlockingBox" 258 mX6_mostUnrelatedBySets 0 RX6 := ⟨md_X6_mostUnrelatedBySets, gw_of (List.mem_of_getElem? (i := 1604) (by decide +kernel)) (by decide +kernel), gw_of (List.mem_of_getElem? (i := 1605) (by decide +kernel)) (by decide +kernel), gw_of (List.mem_of_getElem? (i := 1606) (by decide +kernel)) (by decide +kernel), gw_of (List.mem_of_getElem? (i := 1607) (by decide +kernel)) (by decide +kernel)⟩
theorem fl_X9_54 : FL "InterlockingBox" 54 0 8 0 := ⟨RX9, TX9, 12, rfl, us_X9, by decide, rfl, by decide, Or.inl (gw_of (List.mem_of_getElem? (i := 339) (by decide +kernel)) (by decide +kernel))⟩
theorem tn_X9_131_261 : TN "InterlockingBox" 131 261 135 "no route was refused" := ⟨gw_of (List.mem_of_getElem? (i := 547) (by decide +kernel)) (by decide +kernel), gw_of (List.mem_of_getElem? (i := 48) (by decide +kernel)) (by decide +kernel), List.mem_of_getElem? (i := 5) rfl, fun w hw => ⟨(show ∀ w ∈ (nsA "InterlockingBox" 135).filter vx_no, w ∈ lw_tbl by decide +kernel) w hw, (show ∀ w ∈ (nsA "InterlockingBox" 135).filter vx_no, okW w = true by decide +kernel) w hw⟩⟩
theorem tn_X9_131_263 : TN "InterlockingBox" 131 263 135 "no route was refused for a block" := ⟨gw_of (List.mem_of_getElem? (i := 547) (by decide +kernel)) (by decide +kernel), gw_of (List.mem_of_getElem? (i := 48) (by decide +kernel)) (by decide +kernel), List.mem_of_getElem? (i := 6) rfl, fun w hw => ⟨(show ∀ w ∈ (nsA "InterlockingBox" 135).filter vx_no, w ∈ lw_tbl by decide +kernel) w hw, (show ∀ w ∈ (nsA "InterlockingBox" 135).filter vx_no, okW w = true by decide +kernel) w hw⟩⟩
theorem fl_X9_265 : FL "InterlockingBox" 265 5 6 0 := ⟨RX7, TX7, 9, rfl, us_X7, by decide, rfl, by decide, Or.inr ⟨"InterlockingBox", List.mem_of_getElem? (i := 8) rfl⟩⟩
theorem fl_X9_268 : FL "InterlockingBox" 268 5 8 2 := ⟨RX7, TX7, 9, rfl, us_X7, by decide, rfl, by decide, Or.inr ⟨"InterlockingBox", List.mem_of_getElem? (i := 9) rfl⟩⟩
theorem fl_X9_272 : FL "InterlockingBox" 272 5 5 0 := ⟨RX7, TX7, 9, rfl, us_X7, by decide, rfl, by decide, Or.inr ⟨"InterlockingBox", List.mem_of_getElem? (i := 10) rfl⟩⟩
theorem tw_X9_275_277 : TW "InterlockingBox" 275 277 279 "java/lang/ArithmeticException" "no train has come" ["java/lang/RuntimeException", "java/lang/Exception"] := ⟨by decide +kernel, by decide +kernel, gw_of (List.mem_of_getElem? (i := 1671) (by decide +kernel)) (by decide +kernel), gw_of (List.mem_of_getElem? (i := 63) (by decide +kernel)) (by decide +kernel), List.mem_of_getElem? (i := 19) rfl, fun w hw => ⟨(show ∀ w ∈ vx_atS "InterlockingBox" 279 "java/lang/ArithmeticException" ["java/lang/RuntimeException", "java/lang/Exception"], w ∈ lw_tbl by decide +kernel) w hw, (show ∀ w ∈ vx_atS "InterlockingBox" 279 "java/lang/ArithmeticException" ["java/lang/RuntimeException", "java/lang/Exception"], okW w = true by decide +kernel) w hw⟩⟩
theorem ms_X9_285 : MS "InterlockingBox" 285 mJ6_bitCount_0f7a4 1 := ⟨md_J6_bitCount_0f7a4, gw_of (List.mem_of_getElem? (i := 1684) (by decide +kernel)) (by decide +kernel), gw_of (List.mem_of_getElem? (i := 843) (by decide +kernel)) (by decide +kernel), gw_of (List.mem_of_getElem? (i := 844) (by decide +kernel)) (by decide +kernel)⟩
theorem mv_X9_282 : MV "InterlockingBox" 282 mX7_held 0 RX7 := ⟨md_X7_held, gw_of (List.mem_of_getElem? (i := 1683) (by decide +kernel)) (by decide +kernel), gw_of (List.mem_of_getElem? (i := 523) (by decide +kernel)) (by decide +kernel), gw_of (List.mem_of_getElem? (i := 524) (by decide +kernel)) (by decide +kernel), gw_of (List.mem_of_getElem? (i := 525) (by decide +kernel)) (by decide +kernel)⟩
theorem tw_X9_275_280 : TW "InterlockingBox" 275 280 279 "java/lang/ArithmeticException" "there are no blocks" ["java/lang/RuntimeException", "java/lang/Exception"] := ⟨by decide +kernel, by decide +kernel, gw_of (List.mem_of_getElem? (i := 1671) (by decide +kernel)) (by decide +kernel), gw_of (List.mem_of_getElem? (i := 63) (by decide +kernel)) (by decide +kernel), List.mem_of_getElem? (i := 20) rfl, fun w hw => ⟨(show ∀ w ∈ vx_atS "InterlockingBox" 279 "java/lang/ArithmeticException" ["java/lang/RuntimeException", "java/lang/Exception"], w ∈ lw_tbl by decide +kernel) w hw, (show ∀ w ∈ vx_atS "InterlockingBox" 279 "java/lang/ArithmeticException" ["java/lang/RuntimeException", "java/lang/Exception"], okW w = true by decide +kernel) w hw⟩⟩
theorem fl_X3_34 : FL "InterlockingBox$Invariants" 34 2 0 0 := ⟨RX4, TX4, 12, rfl, us_X4, by decide, rfl, by decide, Or.inr ⟨"InterlockingBox", List.mem_of_getElem? (i := 22) rfl⟩⟩
theorem mv_X3_48 : MV "InterlockingBox$Invariants" 48 mX4_hasExit 1 RX4 := ⟨md_X4_hasExit, gw_of (List.mem_of_getElem? (i := 1625) (by decide +kernel)) (by decide +kernel), gw_of (List.mem_of_getElem? (i := 816) (by decide +kernel)) (by decide +kernel), gw_of (List.mem_of_getElem? (i := 817) (by decide +kernel)) (by decide +kernel), gw_of (List.mem_of_getElem? (i := 818) (by decide +kernel)) (by decide +kernel)⟩
theorem mv_X3_44 : MV "InterlockingBox$Invariants" 44 mX4_lengthOf 1 RX4 := ⟨md_X4_lengthOf, gw_of (List.mem_of_getElem? (i := 1624) (by decide +kernel)) (by decide +kernel), gw_of (List.mem_of_getElem? (i := 639) (by decide +kernel)) (by decide +kernel), gw_of (List.mem_of_getElem? (i := 640) (by decide +kernel)) (by decide +kernel), gw_of (List.mem_of_getElem? (i := 641) (by decide +kernel)) (by decide +kernel)⟩
theorem mv_X3_40 : MV "InterlockingBox$Invariants" 40 mX4_leadsTo 2 RX4 := ⟨md_X4_leadsTo, gw_of (List.mem_of_getElem? (i := 1623) (by decide +kernel)) (by decide +kernel), gw_of (List.mem_of_getElem? (i := 738) (by decide +kernel)) (by decide +kernel), gw_of (List.mem_of_getElem? (i := 739) (by decide +kernel)) (by decide +kernel), gw_of (List.mem_of_getElem? (i := 740) (by decide +kernel)) (by decide +kernel)⟩
theorem fl_X3_52 : FL "InterlockingBox$Invariants" 52 2 1 0 := ⟨RX4, TX4, 12, rfl, us_X4, by decide, rfl, by decide, Or.inr ⟨"InterlockingBox", List.mem_of_getElem? (i := 23) rfl⟩⟩
theorem fl_X3_64 : FL "InterlockingBox$Invariants" 64 2 2 0 := ⟨RX4, TX4, 12, rfl, us_X4, by decide, rfl, by decide, Or.inr ⟨"InterlockingBox", List.mem_of_getElem? (i := 24) rfl⟩⟩
theorem fl_X3_67 : FL "InterlockingBox$Invariants" 67 2 4 0 := ⟨RX4, TX4, 12, rfl, us_X4, by decide, rfl, by decide, Or.inr ⟨"InterlockingBox", List.mem_of_getElem? (i := 25) rfl⟩⟩
theorem fl_X3_70 : FL "InterlockingBox$Invariants" 70 2 3 0 := ⟨RX4, TX4, 12, rfl, us_X4, by decide, rfl, by decide, Or.inr ⟨"InterlockingBox", List.mem_of_getElem? (i := 26) rfl⟩⟩
theorem msn_X3_61 : MSN "InterlockingBox$Invariants" 61 mX9_contains 2 := ⟨md_X9_contains, ⟨"InterlockingBox", List.mem_of_getElem? (i := 1) (by decide +kernel)⟩, gw_of (List.mem_of_getElem? (i := 516) (by decide +kernel)) (by decide +kernel), gw_of (List.mem_of_getElem? (i := 517) (by decide +kernel)) (by decide +kernel)⟩
theorem mv_X3_58 : MV "InterlockingBox$Invariants" 58 mX4_isStem 1 RX4 := ⟨md_X4_isStem, gw_of (List.mem_of_getElem? (i := 1627) (by decide +kernel)) (by decide +kernel), gw_of (List.mem_of_getElem? (i := 1360) (by decide +kernel)) (by decide +kernel), gw_of (List.mem_of_getElem? (i := 1361) (by decide +kernel)) (by decide +kernel), gw_of (List.mem_of_getElem? (i := 1362) (by decide +kernel)) (by decide +kernel)⟩
theorem mv_X3_55 : MV "InterlockingBox$Invariants" 55 mX4_stemOf 1 RX4 := ⟨md_X4_stemOf, gw_of (List.mem_of_getElem? (i := 1626) (by decide +kernel)) (by decide +kernel), gw_of (List.mem_of_getElem? (i := 879) (by decide +kernel)) (by decide +kernel), gw_of (List.mem_of_getElem? (i := 880) (by decide +kernel)) (by decide +kernel), gw_of (List.mem_of_getElem? (i := 881) (by decide +kernel)) (by decide +kernel)⟩
theorem fl_X3_73 : FL "InterlockingBox$Invariants" 73 5 3 0 := ⟨RX7, TX7, 9, rfl, us_X7, by decide, rfl, by decide, Or.inr ⟨"InterlockingBox", List.mem_of_getElem? (i := 27) rfl⟩⟩
theorem fl_X3_97 : FL "InterlockingBox$Invariants" 97 5 5 0 := ⟨RX7, TX7, 9, rfl, us_X7, by decide, rfl, by decide, Or.inr ⟨"InterlockingBox", List.mem_of_getElem? (i := 34) rfl⟩⟩
theorem fl_X3_100 : FL "InterlockingBox$Invariants" 100 5 6 0 := ⟨RX7, TX7, 9, rfl, us_X7, by decide, rfl, by decide, Or.inr ⟨"InterlockingBox", List.mem_of_getElem? (i := 16) rfl⟩⟩
theorem fl_X3_103 : FL "InterlockingBox$Invariants" 103 5 8 2 := ⟨RX7, TX7, 9, rfl, us_X7, by decide, rfl, by decide, Or.inr ⟨"InterlockingBox", List.mem_of_getElem? (i := 17) rfl⟩⟩
theorem fl_X3_76 : FL "InterlockingBox$Invariants" 76 5 1 1 := ⟨RX7, TX7, 9, rfl, us_X7, by decide, rfl, by decide, Or.inr ⟨"InterlockingBox", List.mem_of_getElem? (i := 28) rfl⟩⟩
theorem fl_X3_9 : FL "InterlockingBox$Invariants" 9 5 0 1 := ⟨RX7, TX7, 9, rfl, us_X7, by decide, rfl, by decide, Or.inr ⟨"InterlockingBox", List.mem_of_getElem? (i := 31) rfl⟩⟩
theorem fl_X3_80 : FL "InterlockingBox$Invariants" 80 6 1 0 := ⟨RX8, TX8, 6, rfl, us_X8, by decide, rfl, by decide, Or.inr ⟨"InterlockingBox", List.mem_of_getElem? (i := 29) rfl⟩⟩
theorem fl_X3_91 : FL "InterlockingBox$Invariants" 91 6 0 0 := ⟨RX8, TX8, 6, rfl, us_X8, by decide, rfl, by decide, Or.inr ⟨"InterlockingBox", List.mem_of_getElem? (i := 32) rfl⟩⟩
theorem fl_X3_94 : FL "InterlockingBox$Invariants" 94 6 5 0 := ⟨RX8, TX8, 6, rfl, us_X8, by decide, rfl, by decide, Or.inr ⟨"InterlockingBox", List.mem_of_getElem? (i := 33) rfl⟩⟩
theorem fl_X3_88 : FL "InterlockingBox$Invariants" 88 6 2 0 := ⟨RX8, TX8, 6, rfl, us_X8, by decide, rfl, by decide, Or.inr ⟨"InterlockingBox", List.mem_of_getElem? (i := 30) rfl⟩⟩
theorem mv_X3_85 : MV "InterlockingBox$Invariants" 85 mX4_has 1 RX4 := ⟨md_X4_has, gw_of (List.mem_of_getElem? (i := 1632) (by decide +kernel)) (by decide +kernel), gw_of (List.mem_of_getElem? (i := 495) (by decide +kernel)) (by decide +kernel), gw_of (List.mem_of_getElem? (i := 496) (by decide +kernel)) (by decide +kernel), gw_of (List.mem_of_getElem? (i := 497) (by decide +kernel)) (by decide +kernel)⟩
theorem fl_X3_107 : FL "InterlockingBox$Invariants" 107 6 3 0 := ⟨RX8, TX8, 6, rfl, us_X8, by decide, rfl, by decide, Or.inr ⟨"InterlockingBox", List.mem_of_getElem? (i := 18) rfl⟩⟩
theorem mv_X3_110 : MV "InterlockingBox$Invariants" 110 mX8_held 0 RX8 := ⟨md_X8_held, gw_of (List.mem_of_getElem? (i := 1636) (by decide +kernel)) (by decide +kernel), gw_of (List.mem_of_getElem? (i := 527) (by decide +kernel)) (by decide +kernel), gw_of (List.mem_of_getElem? (i := 528) (by decide +kernel)) (by decide +kernel), gw_of (List.mem_of_getElem? (i := 529) (by decide +kernel)) (by decide +kernel)⟩
theorem mv_X3_120 : MV "InterlockingBox$Invariants" 120 mX4_exitOf 1 RX4 := ⟨md_X4_exitOf, gw_of (List.mem_of_getElem? (i := 1640) (by decide +kernel)) (by decide +kernel), gw_of (List.mem_of_getElem? (i := 635) (by decide +kernel)) (by decide +kernel), gw_of (List.mem_of_getElem? (i := 636) (by decide +kernel)) (by decide +kernel), gw_of (List.mem_of_getElem? (i := 637) (by decide +kernel)) (by decide +kernel)⟩
theorem fl_X3_114 : FL "InterlockingBox$Invariants" 114 6 4 0 := ⟨RX8, TX8, 6, rfl, us_X8, by decide, rfl, by decide, Or.inr ⟨"InterlockingBox", List.mem_of_getElem? (i := 19) rfl⟩⟩
end
section
theorem fl_X3_117 : FL "InterlockingBox$Invariants" 117 5 7 0 := ⟨RX7, TX7, 9, rfl, us_X7, by decide, rfl, by decide, Or.inr ⟨"InterlockingBox", List.mem_of_getElem? (i := 20) rfl⟩⟩
theorem mv_X3_127 : MV "InterlockingBox$Invariants" 127 mX8_isRouted 0 RX8 := ⟨md_X8_isRouted, gw_of (List.mem_of_getElem? (i := 1644) (by decide +kernel)) (by decide +kernel), gw_of (List.mem_of_getElem? (i := 595) (by decide +kernel)) (by decide +kernel), gw_of (List.mem_of_getElem? (i := 596) (by decide +kernel)) (by decide +kernel), gw_of (List.mem_of_getElem? (i := 597) (by decide +kernel)) (by decide +kernel)⟩
theorem md_X3_blocksAhead : MD mX3_blocksAhead 2 := ⟨gw_of (List.mem_of_getElem? (i := 62) (by decide +kernel)) (by decide +kernel), ⟨by decide +kernel, by decide +kernel⟩, by decide +kernel, by decide⟩
theorem ms_X3_123 : MS "InterlockingBox$Invariants" 123 mX3_blocksAhead 2 := ⟨md_X3_blocksAhead, gw_of (List.mem_of_getElem? (i := 1641) (by decide +kernel)) (by decide +kernel), gw_of (List.mem_of_getElem? (i := 1642) (by decide +kernel)) (by decide +kernel), gw_of (List.mem_of_getElem? (i := 1643) (by decide +kernel)) (by decide +kernel)⟩
theorem fl_X3_131 : FL "InterlockingBox$Invariants" 131 5 4 0 := ⟨RX7, TX7, 9, rfl, us_X7, by decide, rfl, by decide, Or.inr ⟨"InterlockingBox", List.mem_of_getElem? (i := 21) rfl⟩⟩
theorem mv_X3_134 : MV "InterlockingBox$Invariants" 134 mX7_inQueue 1 RX7 := ⟨md_X7_inQueue, gw_of (List.mem_of_getElem? (i := 1648) (by decide +kernel)) (by decide +kernel), gw_of (List.mem_of_getElem? (i := 658) (by decide +kernel)) (by decide +kernel), gw_of (List.mem_of_getElem? (i := 659) (by decide +kernel)) (by decide +kernel), gw_of (List.mem_of_getElem? (i := 660) (by decide +kernel)) (by decide +kernel)⟩
theorem mv_X3_137 : MV "InterlockingBox$Invariants" 137 mX7_find 1 RX7 := ⟨md_X7_find, gw_of (List.mem_of_getElem? (i := 1649) (by decide +kernel)) (by decide +kernel), gw_of (List.mem_of_getElem? (i := 381) (by decide +kernel)) (by decide +kernel), gw_of (List.mem_of_getElem? (i := 382) (by decide +kernel)) (by decide +kernel), gw_of (List.mem_of_getElem? (i := 383) (by decide +kernel)) (by decide +kernel)⟩
theorem md_X3_queueIsSound : MD mX3_queueIsSound 1 := ⟨gw_of (List.mem_of_getElem? (i := 62) (by decide +kernel)) (by decide +kernel), ⟨by decide +kernel, by decide +kernel⟩, by decide +kernel, by decide⟩
theorem ms_X3_31 : MS "InterlockingBox$Invariants" 31 mX3_queueIsSound 1 := ⟨md_X3_queueIsSound, gw_of (List.mem_of_getElem? (i := 1645) (by decide +kernel)) (by decide +kernel), gw_of (List.mem_of_getElem? (i := 1646) (by decide +kernel)) (by decide +kernel), gw_of (List.mem_of_getElem? (i := 1647) (by decide +kernel)) (by decide +kernel)⟩
theorem md_X3_routesAreSound : MD mX3_routesAreSound 1 := ⟨gw_of (List.mem_of_getElem? (i := 62) (by decide +kernel)) (by decide +kernel), ⟨by decide +kernel, by decide +kernel⟩, by decide +kernel, by decide⟩
theorem ms_X3_28 : MS "InterlockingBox$Invariants" 28 mX3_routesAreSound 1 := ⟨md_X3_routesAreSound, gw_of (List.mem_of_getElem? (i := 1637) (by decide +kernel)) (by decide +kernel), gw_of (List.mem_of_getElem? (i := 1638) (by decide +kernel)) (by decide +kernel), gw_of (List.mem_of_getElem? (i := 1639) (by decide +kernel)) (by decide +kernel)⟩
theorem md_X3_blocksAreHeldOnce : MD mX3_blocksAreHeldOnce 1 := ⟨gw_of (List.mem_of_getElem? (i := 62) (by decide +kernel)) (by decide +kernel), ⟨by decide +kernel, by decide +kernel⟩, by decide +kernel, by decide⟩
theorem ms_X3_25 : MS "InterlockingBox$Invariants" 25 mX3_blocksAreHeldOnce 1 := ⟨md_X3_blocksAreHeldOnce, gw_of (List.mem_of_getElem? (i := 1633) (by decide +kernel)) (by decide +kernel), gw_of (List.mem_of_getElem? (i := 1634) (by decide +kernel)) (by decide +kernel), gw_of (List.mem_of_getElem? (i := 1635) (by decide +kernel)) (by decide +kernel)⟩
theorem md_X3_trainsAreSound : MD mX3_trainsAreSound 1 := ⟨gw_of (List.mem_of_getElem? (i := 62) (by decide +kernel)) (by decide +kernel), ⟨by decide +kernel, by decide +kernel⟩, by decide +kernel, by decide⟩
theorem ms_X3_21 : MS "InterlockingBox$Invariants" 21 mX3_trainsAreSound 1 := ⟨md_X3_trainsAreSound, gw_of (List.mem_of_getElem? (i := 1629) (by decide +kernel)) (by decide +kernel), gw_of (List.mem_of_getElem? (i := 1630) (by decide +kernel)) (by decide +kernel), gw_of (List.mem_of_getElem? (i := 1631) (by decide +kernel)) (by decide +kernel)⟩
theorem md_X3_lineIsSound : MD mX3_lineIsSound 1 := ⟨gw_of (List.mem_of_getElem? (i := 62) (by decide +kernel)) (by decide +kernel), ⟨by decide +kernel, by decide +kernel⟩, by decide +kernel, by decide⟩
theorem ms_X3_15 : MS "InterlockingBox$Invariants" 15 mX3_lineIsSound 1 := ⟨md_X3_lineIsSound, gw_of (List.mem_of_getElem? (i := 1620) (by decide +kernel)) (by decide +kernel), gw_of (List.mem_of_getElem? (i := 1621) (by decide +kernel)) (by decide +kernel), gw_of (List.mem_of_getElem? (i := 1622) (by decide +kernel)) (by decide +kernel)⟩
theorem md_X3_hold : MD mX3_hold 1 := ⟨gw_of (List.mem_of_getElem? (i := 62) (by decide +kernel)) (by decide +kernel), ⟨by decide +kernel, by decide +kernel⟩, by decide +kernel, by decide⟩
theorem ms_X9_290 : MS "InterlockingBox" 290 mX3_hold 1 := ⟨md_X3_hold, gw_of (List.mem_of_getElem? (i := 1617) (by decide +kernel)) (by decide +kernel), gw_of (List.mem_of_getElem? (i := 1618) (by decide +kernel)) (by decide +kernel), gw_of (List.mem_of_getElem? (i := 1619) (by decide +kernel)) (by decide +kernel)⟩
theorem gl_J8_194 : Cond.methodLink "jdk/internal/util/ArraysSupport" 194 Lib.Math.max.name ∈ gw := gw_of (List.mem_of_getElem? (i := 996) (by decide +kernel)) (by decide +kernel)
theorem gc_J8_200 : Cond.constant "jdk/internal/util/ArraysSupport" 200 (nI 2147483639) ∈ gw := gw_of (List.mem_of_getElem? (i := 999) (by decide +kernel)) (by decide +kernel)
theorem fl_J5_15 : FL "java/lang/AbstractStringBuilder" 15 8 0 1 := ⟨RJ4, TJ4, 4, rfl, us_J4, by decide, rfl, by decide, Or.inl (gw_of (List.mem_of_getElem? (i := 316) (by decide +kernel)) (by decide +kernel))⟩
theorem fl_J5_22 : FL "java/lang/AbstractStringBuilder" 22 8 1 0 := ⟨RJ4, TJ4, 4, rfl, us_J4, by decide, rfl, by decide, Or.inl (gw_of (List.mem_of_getElem? (i := 317) (by decide +kernel)) (by decide +kernel))⟩
theorem gc_J5_39 : Cond.constant "java/lang/AbstractStringBuilder" 39 (nI 2147483647) ∈ gw := gw_of (List.mem_of_getElem? (i := 1003) (by decide +kernel)) (by decide +kernel)
theorem md_J8_newLength_cabcc : MD mJ8_newLength_cabcc 3 := ⟨gw_of (List.mem_of_getElem? (i := 57) (by decide +kernel)) (by decide +kernel), ⟨by decide +kernel, by decide +kernel⟩, by decide +kernel, by decide⟩
theorem ms_J5_114 : MS "java/lang/AbstractStringBuilder" 114 mJ8_newLength_cabcc 3 := ⟨md_J8_newLength_cabcc, gw_of (List.mem_of_getElem? (i := 993) (by decide +kernel)) (by decide +kernel), gw_of (List.mem_of_getElem? (i := 994) (by decide +kernel)) (by decide +kernel), gw_of (List.mem_of_getElem? (i := 995) (by decide +kernel)) (by decide +kernel)⟩
theorem gl_J7_304 : Cond.methodLink "java/util/Arrays" 304 Lib.Math.min.name ∈ gw := gw_of (List.mem_of_getElem? (i := 1014) (by decide +kernel)) (by decide +kernel)
theorem gl_J7_150 : Cond.methodLink "java/util/Arrays" 150 arraycopyName ∈ gw := gw_of (List.mem_of_getElem? (i := 1015) (by decide +kernel)) (by decide +kernel)
theorem md_J7_copyOf_9075b : MD mJ7_copyOf_9075b 2 := ⟨gw_of (List.mem_of_getElem? (i := 50) (by decide +kernel)) (by decide +kernel), ⟨by decide +kernel, by decide +kernel⟩, by decide +kernel, by decide⟩
theorem ms_J5_108 : MS "java/lang/AbstractStringBuilder" 108 mJ7_copyOf_9075b 2 := ⟨md_J7_copyOf_9075b, gw_of (List.mem_of_getElem? (i := 1004) (by decide +kernel)) (by decide +kernel), gw_of (List.mem_of_getElem? (i := 1005) (by decide +kernel)) (by decide +kernel), gw_of (List.mem_of_getElem? (i := 1006) (by decide +kernel)) (by decide +kernel)⟩
theorem md_J5_newCapacity_0f7a4 : MD mJ5_newCapacity_0f7a4 1 := ⟨gw_of (List.mem_of_getElem? (i := 39) (by decide +kernel)) (by decide +kernel), ⟨by decide +kernel, by decide +kernel⟩, by decide +kernel, by decide⟩
theorem mv_J5_104_J4 : MV "java/lang/AbstractStringBuilder" 104 mJ5_newCapacity_0f7a4 1 RJ4 := ⟨md_J5_newCapacity_0f7a4, gw_of (List.mem_of_getElem? (i := 989) (by decide +kernel)) (by decide +kernel), gw_of (List.mem_of_getElem? (i := 991) (by decide +kernel)) (by decide +kernel), gw_ofx (List.mem_of_getElem? (i := 1) rfl) (by decide +kernel), gw_of (List.mem_of_getElem? (i := 992) (by decide +kernel)) (by decide +kernel)⟩
theorem fl_J5_79 : FL "java/lang/AbstractStringBuilder" 79 8 3 0 := ⟨RJ4, TJ4, 4, rfl, us_J4, by decide, rfl, by decide, Or.inl (gw_of (List.mem_of_getElem? (i := 320) (by decide +kernel)) (by decide +kernel))⟩
theorem fp_J5_79 : FP "java/lang/AbstractStringBuilder" 79 8 3 0 (.int) false := ⟨RJ4, TJ4, 4, tyJ4, rfl, us_J4, by decide, rfl, by decide, Or.inl (gw_of (List.mem_of_getElem? (i := 320) (by decide +kernel)) (by decide +kernel)), tyJ4_ok, nmJ4, rfl, rfl, fun z => nomatch z⟩
theorem fp_J5_73 : FP "java/lang/AbstractStringBuilder" 73 8 2 0 (.boolean) false := ⟨RJ4, TJ4, 4, tyJ4, rfl, us_J4, by decide, rfl, by decide, Or.inl (gw_of (List.mem_of_getElem? (i := 318) (by decide +kernel)) (by decide +kernel)), tyJ4_ok, nmJ4, rfl, rfl, fun z => nomatch z⟩
theorem md_J5_isLatin1_aae02 : MD mJ5_isLatin1_aae02 0 := ⟨gw_of (List.mem_of_getElem? (i := 39) (by decide +kernel)) (by decide +kernel), ⟨by decide +kernel, by decide +kernel⟩, by decide +kernel, by decide⟩
theorem mv_J5_83_J4 : MV "java/lang/AbstractStringBuilder" 83 mJ5_isLatin1_aae02 0 RJ4 := ⟨md_J5_isLatin1_aae02, gw_of (List.mem_of_getElem? (i := 1016) (by decide +kernel)) (by decide +kernel), gw_of (List.mem_of_getElem? (i := 1017) (by decide +kernel)) (by decide +kernel), gw_of (List.mem_of_getElem? (i := 1019) (by decide +kernel)) (by decide +kernel), gw_of (List.mem_of_getElem? (i := 1020) (by decide +kernel)) (by decide +kernel)⟩
theorem md_J5_ensureCapacityInternal_d00df : MD mJ5_ensureCapacityInternal_d00df 1 := ⟨gw_of (List.mem_of_getElem? (i := 39) (by decide +kernel)) (by decide +kernel), ⟨by decide +kernel, by decide +kernel⟩, by decide +kernel, by decide⟩
theorem mv_J5_100_J4 : MV "java/lang/AbstractStringBuilder" 100 mJ5_ensureCapacityInternal_d00df 1 RJ4 := ⟨md_J5_ensureCapacityInternal_d00df, gw_of (List.mem_of_getElem? (i := 985) (by decide +kernel)) (by decide +kernel), gw_of (List.mem_of_getElem? (i := 987) (by decide +kernel)) (by decide +kernel), gw_ofx (List.mem_of_getElem? (i := 0) rfl) (by decide +kernel), gw_of (List.mem_of_getElem? (i := 988) (by decide +kernel)) (by decide +kernel)⟩
theorem md_J5_setLength_d00df : MD mJ5_setLength_d00df 1 := ⟨gw_of (List.mem_of_getElem? (i := 39) (by decide +kernel)) (by decide +kernel), ⟨by decide +kernel, by decide +kernel⟩, by decide +kernel, by decide⟩
theorem mp_J4_333 : MP "java/lang/StringBuilder" 333 mJ5_setLength_d00df 1 := ⟨md_J5_setLength_d00df, gw_of (List.mem_of_getElem? (i := 1440) (by decide +kernel)) (by decide +kernel), gw_of (List.mem_of_getElem? (i := 1729) (by decide +kernel)) (by decide +kernel), gw_of (List.mem_of_getElem? (i := 329) (by decide +kernel)) (by decide +kernel), gw_of (List.mem_of_getElem? (i := 1441) (by decide +kernel)) (by decide +kernel), gw_of (List.mem_of_getElem? (i := 1442) (by decide +kernel)) (by decide +kernel), by decide +kernel⟩
theorem md_J1_canEncode_fc78d : MD mJ1_canEncode_fc78d 1 := ⟨gw_of (List.mem_of_getElem? (i := 59) (by decide +kernel)) (by decide +kernel), ⟨by decide +kernel, by decide +kernel⟩, by decide +kernel, by decide⟩
theorem ms_J5_191 : MS "java/lang/AbstractStringBuilder" 191 mJ1_canEncode_fc78d 1 := ⟨md_J1_canEncode_fc78d, gw_of (List.mem_of_getElem? (i := 1496) (by decide +kernel)) (by decide +kernel), gw_of (List.mem_of_getElem? (i := 1497) (by decide +kernel)) (by decide +kernel), gw_of (List.mem_of_getElem? (i := 1498) (by decide +kernel)) (by decide +kernel)⟩
theorem md_J5_append_3fe6f : MD mJ5_append_3fe6f 1 := ⟨gw_of (List.mem_of_getElem? (i := 39) (by decide +kernel)) (by decide +kernel), ⟨by decide +kernel, by decide +kernel⟩, by decide +kernel, by decide⟩
theorem mp_J4_50 : MP "java/lang/StringBuilder" 50 mJ5_append_3fe6f 1 := ⟨md_J5_append_3fe6f, gw_of (List.mem_of_getElem? (i := 1493) (by decide +kernel)) (by decide +kernel), gw_of (List.mem_of_getElem? (i := 1730) (by decide +kernel)) (by decide +kernel), gw_of (List.mem_of_getElem? (i := 329) (by decide +kernel)) (by decide +kernel), gw_of (List.mem_of_getElem? (i := 1494) (by decide +kernel)) (by decide +kernel), gw_of (List.mem_of_getElem? (i := 1495) (by decide +kernel)) (by decide +kernel), by decide +kernel⟩
theorem gz_J6_83 : Cond.fieldLink "java/lang/Integer" 83 "java/lang/Integer" "DigitOnes" "[B" ∈ gw := gw_of (List.mem_of_getElem? (i := 1103) (by decide +kernel)) (by decide +kernel)
theorem gz_J6_87 : Cond.fieldLink "java/lang/Integer" 87 "java/lang/Integer" "DigitTens" "[B" ∈ gw := gw_of (List.mem_of_getElem? (i := 1105) (by decide +kernel)) (by decide +kernel)
theorem md_J6_getChars_ba4f3 : MD mJ6_getChars_ba4f3 3 := ⟨gw_of (List.mem_of_getElem? (i := 56) (by decide +kernel)) (by decide +kernel), ⟨by decide +kernel, by decide +kernel⟩, by decide +kernel, by decide⟩
theorem ms_J5_248 : MS "java/lang/AbstractStringBuilder" 248 mJ6_getChars_ba4f3 3 := ⟨md_J6_getChars_ba4f3, gw_of (List.mem_of_getElem? (i := 1100) (by decide +kernel)) (by decide +kernel), gw_of (List.mem_of_getElem? (i := 1101) (by decide +kernel)) (by decide +kernel), gw_of (List.mem_of_getElem? (i := 1102) (by decide +kernel)) (by decide +kernel)⟩
theorem md_J6_stringSize_0f7a4 : MD mJ6_stringSize_0f7a4 1 := ⟨gw_of (List.mem_of_getElem? (i := 56) (by decide +kernel)) (by decide +kernel), ⟨by decide +kernel, by decide +kernel⟩, by decide +kernel, by decide⟩
theorem ms_J5_245 : MS "java/lang/AbstractStringBuilder" 245 mJ6_stringSize_0f7a4 1 := ⟨md_J6_stringSize_0f7a4, gw_of (List.mem_of_getElem? (i := 1097) (by decide +kernel)) (by decide +kernel), gw_of (List.mem_of_getElem? (i := 1098) (by decide +kernel)) (by decide +kernel), gw_of (List.mem_of_getElem? (i := 1099) (by decide +kernel)) (by decide +kernel)⟩
theorem md_J5_append_c97b9 : MD mJ5_append_c97b9 1 := ⟨gw_of (List.mem_of_getElem? (i := 39) (by decide +kernel)) (by decide +kernel), ⟨by decide +kernel, by decide +kernel⟩, by decide +kernel, by decide⟩
theorem mp_J4_53 : MP "java/lang/StringBuilder" 53 mJ5_append_c97b9 1 := ⟨md_J5_append_c97b9, gw_of (List.mem_of_getElem? (i := 1094) (by decide +kernel)) (by decide +kernel), gw_of (List.mem_of_getElem? (i := 1728) (by decide +kernel)) (by decide +kernel), gw_of (List.mem_of_getElem? (i := 329) (by decide +kernel)) (by decide +kernel), gw_of (List.mem_of_getElem? (i := 1095) (by decide +kernel)) (by decide +kernel), gw_of (List.mem_of_getElem? (i := 1096) (by decide +kernel)) (by decide +kernel), by decide +kernel⟩
theorem md_J5_length_8abf5 : MD mJ5_length_8abf5 0 := ⟨gw_of (List.mem_of_getElem? (i := 39) (by decide +kernel)) (by decide +kernel), ⟨by decide +kernel, by decide +kernel⟩, by decide +kernel, by decide⟩
theorem mp_J4_343 : MP "java/lang/StringBuilder" 343 mJ5_length_8abf5 0 := ⟨md_J5_length_8abf5, gw_of (List.mem_of_getElem? (i := 1139) (by decide +kernel)) (by decide +kernel), gw_of (List.mem_of_getElem? (i := 1135) (by decide +kernel)) (by decide +kernel), gw_of (List.mem_of_getElem? (i := 329) (by decide +kernel)) (by decide +kernel), gw_of (List.mem_of_getElem? (i := 1134) (by decide +kernel)) (by decide +kernel), gw_of (List.mem_of_getElem? (i := 1140) (by decide +kernel)) (by decide +kernel), by decide +kernel⟩
theorem fl_X9_46 : FL "InterlockingBox" 46 0 6 1 := ⟨RX9, TX9, 12, rfl, us_X9, by decide, rfl, by decide, Or.inl (gw_of (List.mem_of_getElem? (i := 337) (by decide +kernel)) (by decide +kernel))⟩
theorem md_J4_length_8abf5 : MD mJ4_length_8abf5 0 := ⟨gw_of (List.mem_of_getElem? (i := 40) (by decide +kernel)) (by decide +kernel), ⟨by decide +kernel, by decide +kernel⟩, by decide +kernel, by decide⟩
theorem mv_X9_306 : MV "InterlockingBox" 306 mJ4_length_8abf5 0 RJ4 := ⟨md_J4_length_8abf5, gw_of (List.mem_of_getElem? (i := 1507) (by decide +kernel)) (by decide +kernel), gw_of (List.mem_of_getElem? (i := 1137) (by decide +kernel)) (by decide +kernel), gw_of (List.mem_of_getElem? (i := 1731) (by decide +kernel)) (by decide +kernel), gw_of (List.mem_of_getElem? (i := 1138) (by decide +kernel)) (by decide +kernel)⟩
theorem md_J4_append_bf812 : MD mJ4_append_bf812 1 := ⟨gw_of (List.mem_of_getElem? (i := 40) (by decide +kernel)) (by decide +kernel), ⟨by decide +kernel, by decide +kernel⟩, by decide +kernel, by decide⟩
theorem mv_X9_303 : MV "InterlockingBox" 303 mJ4_append_bf812 1 RJ4 := ⟨md_J4_append_bf812, gw_of (List.mem_of_getElem? (i := 1488) (by decide +kernel)) (by decide +kernel), gw_of (List.mem_of_getElem? (i := 1091) (by decide +kernel)) (by decide +kernel), gw_of (List.mem_of_getElem? (i := 1092) (by decide +kernel)) (by decide +kernel), gw_of (List.mem_of_getElem? (i := 1093) (by decide +kernel)) (by decide +kernel)⟩
theorem md_J4_append_cf468 : MD mJ4_append_cf468 1 := ⟨gw_of (List.mem_of_getElem? (i := 40) (by decide +kernel)) (by decide +kernel), ⟨by decide +kernel, by decide +kernel⟩, by decide +kernel, by decide⟩
theorem mv_X9_299 : MV "InterlockingBox" 299 mJ4_append_cf468 1 RJ4 := ⟨md_J4_append_cf468, gw_of (List.mem_of_getElem? (i := 1489) (by decide +kernel)) (by decide +kernel), gw_of (List.mem_of_getElem? (i := 1490) (by decide +kernel)) (by decide +kernel), gw_of (List.mem_of_getElem? (i := 1491) (by decide +kernel)) (by decide +kernel), gw_of (List.mem_of_getElem? (i := 1492) (by decide +kernel)) (by decide +kernel)⟩
theorem md_J4_setLength_d00df : MD mJ4_setLength_d00df 1 := ⟨gw_of (List.mem_of_getElem? (i := 40) (by decide +kernel)) (by decide +kernel), ⟨by decide +kernel, by decide +kernel⟩, by decide +kernel, by decide⟩
theorem mv_X9_296 : MV "InterlockingBox" 296 mJ4_setLength_d00df 1 RJ4 := ⟨md_J4_setLength_d00df, gw_of (List.mem_of_getElem? (i := 1436) (by decide +kernel)) (by decide +kernel), gw_of (List.mem_of_getElem? (i := 1437) (by decide +kernel)) (by decide +kernel), gw_of (List.mem_of_getElem? (i := 1438) (by decide +kernel)) (by decide +kernel), gw_of (List.mem_of_getElem? (i := 1439) (by decide +kernel)) (by decide +kernel)⟩
theorem mv_X9_399 : MV "InterlockingBox" 399 mX4_exitOf 1 RX4 := ⟨md_X4_exitOf, gw_of (List.mem_of_getElem? (i := 1506) (by decide +kernel)) (by decide +kernel), gw_of (List.mem_of_getElem? (i := 635) (by decide +kernel)) (by decide +kernel), gw_of (List.mem_of_getElem? (i := 636) (by decide +kernel)) (by decide +kernel), gw_of (List.mem_of_getElem? (i := 637) (by decide +kernel)) (by decide +kernel)⟩
theorem md_X9_writeRestOfRoute : MD mX9_writeRestOfRoute 1 := ⟨gw_of (List.mem_of_getElem? (i := 30) (by decide +kernel)) (by decide +kernel), ⟨by decide +kernel, by decide +kernel⟩, by decide +kernel, by decide⟩
theorem mv_X9_309 : MV "InterlockingBox" 309 mX9_writeRestOfRoute 1 RX9 := ⟨md_X9_writeRestOfRoute, gw_of (List.mem_of_getElem? (i := 1502) (by decide +kernel)) (by decide +kernel), gw_of (List.mem_of_getElem? (i := 1504) (by decide +kernel)) (by decide +kernel), gw_of (List.mem_of_getElem? (i := 25) (by decide +kernel)) (by decide +kernel), gw_of (List.mem_of_getElem? (i := 1505) (by decide +kernel)) (by decide +kernel)⟩
theorem gz_J0_1053 : Cond.fieldLink "java/lang/String" 1053 "jdk/internal/util/Preconditions" "SIOOBE_FORMATTER" "Ljava/util/function/BiFunction;" ∈ gw := gw_of (List.mem_of_getElem? (i := 1033) (by decide +kernel)) (by decide +kernel)
theorem md_J3_checkIndex_8e157 : MD mJ3_checkIndex_8e157 3 := ⟨gw_of (List.mem_of_getElem? (i := 58) (by decide +kernel)) (by decide +kernel), ⟨by decide +kernel, by decide +kernel⟩, by decide +kernel, by decide⟩
theorem ms_J0_1059 : MS "java/lang/String" 1059 mJ3_checkIndex_8e157 3 := ⟨md_J3_checkIndex_8e157, gw_of (List.mem_of_getElem? (i := 1200) (by decide +kernel)) (by decide +kernel), gw_of (List.mem_of_getElem? (i := 1201) (by decide +kernel)) (by decide +kernel), gw_of (List.mem_of_getElem? (i := 1202) (by decide +kernel)) (by decide +kernel)⟩
theorem md_J0_checkIndex_df160 : MD mJ0_checkIndex_df160 2 := ⟨gw_of (List.mem_of_getElem? (i := 41) (by decide +kernel)) (by decide +kernel), ⟨by decide +kernel, by decide +kernel⟩, by decide +kernel, by decide⟩
theorem fl_X5_15 : FL "InterlockingBox$Program" 15 3 1 0 := ⟨RX5, TX5, 6, rfl, us_X5, by decide, rfl, by decide, Or.inl (gw_of (List.mem_of_getElem? (i := 276) (by decide +kernel)) (by decide +kernel))⟩
theorem fl_X5_9 : FL "InterlockingBox$Program" 9 3 0 1 := ⟨RX5, TX5, 6, rfl, us_X5, by decide, rfl, by decide, Or.inl (gw_of (List.mem_of_getElem? (i := 275) (by decide +kernel)) (by decide +kernel))⟩
theorem fl_X9_39 : FL "InterlockingBox" 39 0 5 1 := ⟨RX9, TX9, 12, rfl, us_X9, by decide, rfl, by decide, Or.inl (gw_of (List.mem_of_getElem? (i := 336) (by decide +kernel)) (by decide +kernel))⟩
theorem fl_X9_329 : FL "InterlockingBox" 329 3 1 0 := ⟨RX5, TX5, 6, rfl, us_X5, by decide, rfl, by decide, Or.inr ⟨"InterlockingBox", List.mem_of_getElem? (i := 11) rfl⟩⟩
theorem tw_X9_324_326 : TW "InterlockingBox" 324 326 328 "java/lang/IllegalStateException" "the program buffer is full" ["java/lang/RuntimeException", "java/lang/Exception"] := ⟨by decide +kernel, by decide +kernel, gw_of (List.mem_of_getElem? (i := 781) (by decide +kernel)) (by decide +kernel), gw_of (List.mem_of_getElem? (i := 53) (by decide +kernel)) (by decide +kernel), List.mem_of_getElem? (i := 11) rfl, fun w hw => ⟨(show ∀ w ∈ vx_atS "InterlockingBox" 328 "java/lang/IllegalStateException" ["java/lang/RuntimeException", "java/lang/Exception"], w ∈ lw_tbl by decide +kernel) w hw, (show ∀ w ∈ vx_atS "InterlockingBox" 328 "java/lang/IllegalStateException" ["java/lang/RuntimeException", "java/lang/Exception"], okW w = true by decide +kernel) w hw⟩⟩
theorem md_X5_append : MD mX5_append 1 := ⟨gw_of (List.mem_of_getElem? (i := 36) (by decide +kernel)) (by decide +kernel), ⟨by decide +kernel, by decide +kernel⟩, by decide +kernel, by decide⟩
theorem mv_X9_321 : MV "InterlockingBox" 321 mX5_append 1 RX5 := ⟨md_X5_append, gw_of (List.mem_of_getElem? (i := 1217) (by decide +kernel)) (by decide +kernel), gw_of (List.mem_of_getElem? (i := 1218) (by decide +kernel)) (by decide +kernel), gw_of (List.mem_of_getElem? (i := 1219) (by decide +kernel)) (by decide +kernel), gw_of (List.mem_of_getElem? (i := 1220) (by decide +kernel)) (by decide +kernel)⟩
theorem gz_J0_38 : Cond.fieldLink "java/lang/String" 38 "java/lang/String" "COMPACT_STRINGS" "Z" ∈ gw := gw_of (List.mem_of_getElem? (i := 1055) (by decide +kernel)) (by decide +kernel)
theorem md_J0_coder_7d493 : MD mJ0_coder_7d493 0 := ⟨gw_of (List.mem_of_getElem? (i := 41) (by decide +kernel)) (by decide +kernel), ⟨by decide +kernel, by decide +kernel⟩, by decide +kernel, by decide⟩
theorem mv_J0_335 : MV "java/lang/String" 335 mJ0_coder_7d493 0 RJ0 := ⟨md_J0_coder_7d493, gw_of (List.mem_of_getElem? (i := 1051) (by decide +kernel)) (by decide +kernel), gw_of (List.mem_of_getElem? (i := 1052) (by decide +kernel)) (by decide +kernel), gw_of (List.mem_of_getElem? (i := 1053) (by decide +kernel)) (by decide +kernel), gw_of (List.mem_of_getElem? (i := 1054) (by decide +kernel)) (by decide +kernel)⟩
theorem ms_J1_9 : MS "java/lang/StringLatin1" 9 mJ0_checkIndex_df160 2 := ⟨md_J0_checkIndex_df160, gw_of (List.mem_of_getElem? (i := 1197) (by decide +kernel)) (by decide +kernel), gw_of (List.mem_of_getElem? (i := 1198) (by decide +kernel)) (by decide +kernel), gw_of (List.mem_of_getElem? (i := 1199) (by decide +kernel)) (by decide +kernel)⟩
theorem md_J1_charAt_3b067 : MD mJ1_charAt_3b067 2 := ⟨gw_of (List.mem_of_getElem? (i := 59) (by decide +kernel)) (by decide +kernel), ⟨by decide +kernel, by decide +kernel⟩, by decide +kernel, by decide⟩
theorem ms_J0_495 : MS "java/lang/String" 495 mJ1_charAt_3b067 2 := ⟨md_J1_charAt_3b067, gw_of (List.mem_of_getElem? (i := 1194) (by decide +kernel)) (by decide +kernel), gw_of (List.mem_of_getElem? (i := 1195) (by decide +kernel)) (by decide +kernel), gw_of (List.mem_of_getElem? (i := 1196) (by decide +kernel)) (by decide +kernel)⟩
theorem md_J0_isLatin1_aae02 : MD mJ0_isLatin1_aae02 0 := ⟨gw_of (List.mem_of_getElem? (i := 41) (by decide +kernel)) (by decide +kernel), ⟨by decide +kernel, by decide +kernel⟩, by decide +kernel, by decide⟩
theorem mv_J0_492 : MV "java/lang/String" 492 mJ0_isLatin1_aae02 0 RJ0 := ⟨md_J0_isLatin1_aae02, gw_of (List.mem_of_getElem? (i := 1190) (by decide +kernel)) (by decide +kernel), gw_of (List.mem_of_getElem? (i := 1191) (by decide +kernel)) (by decide +kernel), gw_of (List.mem_of_getElem? (i := 1192) (by decide +kernel)) (by decide +kernel), gw_of (List.mem_of_getElem? (i := 1193) (by decide +kernel)) (by decide +kernel)⟩
theorem md_X5_isDigit : MD mX5_isDigit 1 := ⟨gw_of (List.mem_of_getElem? (i := 36) (by decide +kernel)) (by decide +kernel), ⟨by decide +kernel, by decide +kernel⟩, by decide +kernel, by decide⟩
theorem mv_X5_81 : MV "InterlockingBox$Program" 81 mX5_isDigit 1 RX5 := ⟨md_X5_isDigit, gw_of (List.mem_of_getElem? (i := 1249) (by decide +kernel)) (by decide +kernel), gw_of (List.mem_of_getElem? (i := 1251) (by decide +kernel)) (by decide +kernel), gw_of (List.mem_of_getElem? (i := 17) (by decide +kernel)) (by decide +kernel), gw_of (List.mem_of_getElem? (i := 1252) (by decide +kernel)) (by decide +kernel)⟩
theorem fl_X5_30 : FL "InterlockingBox$Program" 30 3 4 0 := ⟨RX5, TX5, 6, rfl, us_X5, by decide, rfl, by decide, Or.inl (gw_of (List.mem_of_getElem? (i := 280) (by decide +kernel)) (by decide +kernel))⟩
theorem fl_X5_27 : FL "InterlockingBox$Program" 27 3 3 1 := ⟨RX5, TX5, 6, rfl, us_X5, by decide, rfl, by decide, Or.inl (gw_of (List.mem_of_getElem? (i := 279) (by decide +kernel)) (by decide +kernel))⟩
theorem fl_X5_33 : FL "InterlockingBox$Program" 33 3 5 0 := ⟨RX5, TX5, 6, rfl, us_X5, by decide, rfl, by decide, Or.inl (gw_of (List.mem_of_getElem? (i := 282) (by decide +kernel)) (by decide +kernel))⟩
theorem gl_X5_76 : Cond.methodLink "InterlockingBox$Program" 76 Lib.Math.max.name ∈ gw := gw_of (List.mem_of_getElem? (i := 1261) (by decide +kernel)) (by decide +kernel)
theorem md_X5_noteNumber : MD mX5_noteNumber 3 := ⟨gw_of (List.mem_of_getElem? (i := 36) (by decide +kernel)) (by decide +kernel), ⟨by decide +kernel, by decide +kernel⟩, by decide +kernel, by decide⟩
theorem mv_X5_72 : MV "InterlockingBox$Program" 72 mX5_noteNumber 3 RX5 := ⟨md_X5_noteNumber, gw_of (List.mem_of_getElem? (i := 1257) (by decide +kernel)) (by decide +kernel), gw_of (List.mem_of_getElem? (i := 1259) (by decide +kernel)) (by decide +kernel), gw_of (List.mem_of_getElem? (i := 19) (by decide +kernel)) (by decide +kernel), gw_of (List.mem_of_getElem? (i := 1260) (by decide +kernel)) (by decide +kernel)⟩
theorem md_X5_isAt : MD mX5_isAt 2 := ⟨gw_of (List.mem_of_getElem? (i := 36) (by decide +kernel)) (by decide +kernel), ⟨by decide +kernel, by decide +kernel⟩, by decide +kernel, by decide⟩
theorem mv_X5_55 : MV "InterlockingBox$Program" 55 mX5_isAt 2 RX5 := ⟨md_X5_isAt, gw_of (List.mem_of_getElem? (i := 1253) (by decide +kernel)) (by decide +kernel), gw_of (List.mem_of_getElem? (i := 1255) (by decide +kernel)) (by decide +kernel), gw_of (List.mem_of_getElem? (i := 18) (by decide +kernel)) (by decide +kernel), gw_of (List.mem_of_getElem? (i := 1256) (by decide +kernel)) (by decide +kernel)⟩
theorem md_X5_digitsAt : MD mX5_digitsAt 2 := ⟨gw_of (List.mem_of_getElem? (i := 36) (by decide +kernel)) (by decide +kernel), ⟨by decide +kernel, by decide +kernel⟩, by decide +kernel, by decide⟩
theorem mv_X5_68 : MV "InterlockingBox$Program" 68 mX5_digitsAt 2 RX5 := ⟨md_X5_digitsAt, gw_of (List.mem_of_getElem? (i := 1245) (by decide +kernel)) (by decide +kernel), gw_of (List.mem_of_getElem? (i := 1247) (by decide +kernel)) (by decide +kernel), gw_of (List.mem_of_getElem? (i := 16) (by decide +kernel)) (by decide +kernel), gw_of (List.mem_of_getElem? (i := 1248) (by decide +kernel)) (by decide +kernel)⟩
theorem md_J0_charAt_5068e : MD mJ0_charAt_5068e 1 := ⟨gw_of (List.mem_of_getElem? (i := 41) (by decide +kernel)) (by decide +kernel), ⟨by decide +kernel, by decide +kernel⟩, by decide +kernel, by decide⟩
theorem mv_X5_64 : MV "InterlockingBox$Program" 64 mJ0_charAt_5068e 1 RJ0 := ⟨md_J0_charAt_5068e, gw_of (List.mem_of_getElem? (i := 1244) (by decide +kernel)) (by decide +kernel), gw_of (List.mem_of_getElem? (i := 1187) (by decide +kernel)) (by decide +kernel), gw_of (List.mem_of_getElem? (i := 1188) (by decide +kernel)) (by decide +kernel), gw_of (List.mem_of_getElem? (i := 1189) (by decide +kernel)) (by decide +kernel)⟩
theorem md_J0_length_8abf5 : MD mJ0_length_8abf5 0 := ⟨gw_of (List.mem_of_getElem? (i := 41) (by decide +kernel)) (by decide +kernel), ⟨by decide +kernel, by decide +kernel⟩, by decide +kernel, by decide⟩
theorem mv_X5_59 : MV "InterlockingBox$Program" 59 mJ0_length_8abf5 0 RJ0 := ⟨md_J0_length_8abf5, gw_of (List.mem_of_getElem? (i := 1243) (by decide +kernel)) (by decide +kernel), gw_of (List.mem_of_getElem? (i := 1048) (by decide +kernel)) (by decide +kernel), gw_of (List.mem_of_getElem? (i := 1049) (by decide +kernel)) (by decide +kernel), gw_of (List.mem_of_getElem? (i := 1050) (by decide +kernel)) (by decide +kernel)⟩
theorem md_X5_match : MD mX5_match 2 := ⟨gw_of (List.mem_of_getElem? (i := 36) (by decide +kernel)) (by decide +kernel), ⟨by decide +kernel, by decide +kernel⟩, by decide +kernel, by decide⟩
theorem mv_X5_51 : MV "InterlockingBox$Program" 51 mX5_match 2 RX5 := ⟨md_X5_match, gw_of (List.mem_of_getElem? (i := 1239) (by decide +kernel)) (by decide +kernel), gw_of (List.mem_of_getElem? (i := 1241) (by decide +kernel)) (by decide +kernel), gw_of (List.mem_of_getElem? (i := 15) (by decide +kernel)) (by decide +kernel), gw_of (List.mem_of_getElem? (i := 1242) (by decide +kernel)) (by decide +kernel)⟩
theorem md_X5_parseCommand : MD mX5_parseCommand 1 := ⟨gw_of (List.mem_of_getElem? (i := 36) (by decide +kernel)) (by decide +kernel), ⟨by decide +kernel, by decide +kernel⟩, by decide +kernel, by decide⟩
theorem mv_X5_40 : MV "InterlockingBox$Program" 40 mX5_parseCommand 1 RX5 := ⟨md_X5_parseCommand, gw_of (List.mem_of_getElem? (i := 1233) (by decide +kernel)) (by decide +kernel), gw_of (List.mem_of_getElem? (i := 1235) (by decide +kernel)) (by decide +kernel), gw_of (List.mem_of_getElem? (i := 14) (by decide +kernel)) (by decide +kernel), gw_of (List.mem_of_getElem? (i := 1236) (by decide +kernel)) (by decide +kernel)⟩
theorem gz_X9_413 : Cond.fieldLink "InterlockingBox" 413 "InterlockingBox$1" "$SwitchMap$InterlockingBox$Command" "[I" ∈ gw := gw_of (List.mem_of_getElem? (i := 1275) (by decide +kernel)) (by decide +kernel)
theorem md_Jord : MD mJord 0 := ⟨gw_of (List.mem_of_getElem? (i := 37) (by decide +kernel)) (by decide +kernel), ⟨by decide +kernel, by decide +kernel⟩, by decide +kernel, by decide⟩
theorem mu_X9_423 : MU "InterlockingBox" 423 mJord 0 RX1 := ⟨md_Jord, gw_of (List.mem_of_getElem? (i := 1281) (by decide +kernel)) (by decide +kernel), gw_of (List.mem_of_getElem? (i := 1282) (by decide +kernel)) (by decide +kernel), gw_of (List.mem_of_getElem? (i := 1284) (by decide +kernel)) (by decide +kernel), gw_of (List.mem_of_getElem? (i := 1285) (by decide +kernel)) (by decide +kernel), gw_of (List.mem_of_getElem? (i := 1286) (by decide +kernel)) (by decide +kernel)⟩
theorem md_X5_command : MD mX5_command 1 := ⟨gw_of (List.mem_of_getElem? (i := 36) (by decide +kernel)) (by decide +kernel), ⟨by decide +kernel, by decide +kernel⟩, by decide +kernel, by decide⟩
theorem mv_X9_419 : MV "InterlockingBox" 419 mX5_command 1 RX5 := ⟨md_X5_command, gw_of (List.mem_of_getElem? (i := 1277) (by decide +kernel)) (by decide +kernel), gw_of (List.mem_of_getElem? (i := 1278) (by decide +kernel)) (by decide +kernel), gw_of (List.mem_of_getElem? (i := 1279) (by decide +kernel)) (by decide +kernel), gw_of (List.mem_of_getElem? (i := 1280) (by decide +kernel)) (by decide +kernel)⟩
theorem md_X5_number : MD mX5_number 2 := ⟨gw_of (List.mem_of_getElem? (i := 36) (by decide +kernel)) (by decide +kernel), ⟨by decide +kernel, by decide +kernel⟩, by decide +kernel, by decide⟩
theorem mv_X9_411 : MV "InterlockingBox" 411 mX5_number 2 RX5 := ⟨md_X5_number, gw_of (List.mem_of_getElem? (i := 1271) (by decide +kernel)) (by decide +kernel), gw_of (List.mem_of_getElem? (i := 1272) (by decide +kernel)) (by decide +kernel), gw_of (List.mem_of_getElem? (i := 1273) (by decide +kernel)) (by decide +kernel), gw_of (List.mem_of_getElem? (i := 1274) (by decide +kernel)) (by decide +kernel)⟩
theorem fl_X9_342 : FL "InterlockingBox" 342 3 4 0 := ⟨RX5, TX5, 6, rfl, us_X5, by decide, rfl, by decide, Or.inr ⟨"InterlockingBox", List.mem_of_getElem? (i := 13) rfl⟩⟩
theorem tw_X9_351_353 : TW "InterlockingBox" 351 353 355 "java/lang/UnsupportedOperationException" "a command failed" ["java/lang/RuntimeException", "java/lang/Exception"] := ⟨by decide +kernel, by decide +kernel, gw_of (List.mem_of_getElem? (i := 765) (by decide +kernel)) (by decide +kernel), gw_of (List.mem_of_getElem? (i := 52) (by decide +kernel)) (by decide +kernel), List.mem_of_getElem? (i := 13) rfl, fun w hw => ⟨(show ∀ w ∈ vx_atS "InterlockingBox" 355 "java/lang/UnsupportedOperationException" ["java/lang/RuntimeException", "java/lang/Exception"], w ∈ lw_tbl by decide +kernel) w hw, (show ∀ w ∈ vx_atS "InterlockingBox" 355 "java/lang/UnsupportedOperationException" ["java/lang/RuntimeException", "java/lang/Exception"], okW w = true by decide +kernel) w hw⟩⟩
theorem md_X2_putBack : MD mX2_putBack 1 := ⟨gw_of (List.mem_of_getElem? (i := 34) (by decide +kernel)) (by decide +kernel), ⟨by decide +kernel, by decide +kernel⟩, by decide +kernel, by decide⟩
theorem mv_X9_348 : MV "InterlockingBox" 348 mX2_putBack 1 RX2 := ⟨md_X2_putBack, gw_of (List.mem_of_getElem? (i := 1307) (by decide +kernel)) (by decide +kernel), gw_of (List.mem_of_getElem? (i := 1308) (by decide +kernel)) (by decide +kernel), gw_of (List.mem_of_getElem? (i := 1309) (by decide +kernel)) (by decide +kernel), gw_of (List.mem_of_getElem? (i := 1310) (by decide +kernel)) (by decide +kernel)⟩
theorem md_X9_execute : MD mX9_execute 1 := ⟨gw_of (List.mem_of_getElem? (i := 30) (by decide +kernel)) (by decide +kernel), ⟨by decide +kernel, by decide +kernel⟩, by decide +kernel, by decide⟩
theorem mv_X9_345 : MV "InterlockingBox" 345 mX9_execute 1 RX9 := ⟨md_X9_execute, gw_of (List.mem_of_getElem? (i := 1267) (by decide +kernel)) (by decide +kernel), gw_of (List.mem_of_getElem? (i := 1269) (by decide +kernel)) (by decide +kernel), gw_of (List.mem_of_getElem? (i := 20) (by decide +kernel)) (by decide +kernel), gw_of (List.mem_of_getElem? (i := 1270) (by decide +kernel)) (by decide +kernel)⟩
theorem fl_X9_337 : FL "InterlockingBox" 337 3 5 0 := ⟨RX5, TX5, 6, rfl, us_X5, by decide, rfl, by decide, Or.inr ⟨"InterlockingBox", List.mem_of_getElem? (i := 12) rfl⟩⟩
theorem tw_X9_244_340 : TW "InterlockingBox" 244 340 248 "java/lang/IllegalArgumentException" "not a program" ["java/lang/RuntimeException", "java/lang/Exception"] := ⟨by decide +kernel, by decide +kernel, gw_of (List.mem_of_getElem? (i := 749) (by decide +kernel)) (by decide +kernel), gw_of (List.mem_of_getElem? (i := 51) (by decide +kernel)) (by decide +kernel), List.mem_of_getElem? (i := 12) rfl, fun w hw => ⟨(show ∀ w ∈ vx_atS "InterlockingBox" 248 "java/lang/IllegalArgumentException" ["java/lang/RuntimeException", "java/lang/Exception"], w ∈ lw_tbl by decide +kernel) w hw, (show ∀ w ∈ vx_atS "InterlockingBox" 248 "java/lang/IllegalArgumentException" ["java/lang/RuntimeException", "java/lang/Exception"], okW w = true by decide +kernel) w hw⟩⟩
theorem md_X5_clear : MD mX5_clear 0 := ⟨gw_of (List.mem_of_getElem? (i := 36) (by decide +kernel)) (by decide +kernel), ⟨by decide +kernel, by decide +kernel⟩, by decide +kernel, by decide⟩
theorem mv_X9_334 : MV "InterlockingBox" 334 mX5_clear 0 RX5 := ⟨md_X5_clear, gw_of (List.mem_of_getElem? (i := 1262) (by decide +kernel)) (by decide +kernel), gw_of (List.mem_of_getElem? (i := 1263) (by decide +kernel)) (by decide +kernel), gw_of (List.mem_of_getElem? (i := 1264) (by decide +kernel)) (by decide +kernel), gw_of (List.mem_of_getElem? (i := 1265) (by decide +kernel)) (by decide +kernel)⟩
theorem md_X5_parse : MD mX5_parse 0 := ⟨gw_of (List.mem_of_getElem? (i := 36) (by decide +kernel)) (by decide +kernel), ⟨by decide +kernel, by decide +kernel⟩, by decide +kernel, by decide⟩
theorem mv_X9_331 : MV "InterlockingBox" 331 mX5_parse 0 RX5 := ⟨md_X5_parse, gw_of (List.mem_of_getElem? (i := 1229) (by decide +kernel)) (by decide +kernel), gw_of (List.mem_of_getElem? (i := 1230) (by decide +kernel)) (by decide +kernel), gw_of (List.mem_of_getElem? (i := 1231) (by decide +kernel)) (by decide +kernel), gw_of (List.mem_of_getElem? (i := 1232) (by decide +kernel)) (by decide +kernel)⟩
theorem mv_X2_35 : MV "InterlockingBox$History" 35 mX2_putBack 1 RX2 := ⟨md_X2_putBack, gw_of (List.mem_of_getElem? (i := 1705) (by decide +kernel)) (by decide +kernel), gw_of (List.mem_of_getElem? (i := 1308) (by decide +kernel)) (by decide +kernel), gw_of (List.mem_of_getElem? (i := 1309) (by decide +kernel)) (by decide +kernel), gw_of (List.mem_of_getElem? (i := 1310) (by decide +kernel)) (by decide +kernel)⟩
theorem fl_X9_365 : FL "InterlockingBox" 365 1 2 0 := ⟨RX2, TX2, 3, rfl, us_X2, by decide, rfl, by decide, Or.inr ⟨"InterlockingBox", List.mem_of_getElem? (i := 14) rfl⟩⟩
theorem tw_X9_324_363 : TW "InterlockingBox" 324 363 328 "java/lang/IllegalStateException" "no change can be undone" ["java/lang/RuntimeException", "java/lang/Exception"] := ⟨by decide +kernel, by decide +kernel, gw_of (List.mem_of_getElem? (i := 781) (by decide +kernel)) (by decide +kernel), gw_of (List.mem_of_getElem? (i := 53) (by decide +kernel)) (by decide +kernel), List.mem_of_getElem? (i := 21) rfl, fun w hw => ⟨(show ∀ w ∈ vx_atS "InterlockingBox" 328 "java/lang/IllegalStateException" ["java/lang/RuntimeException", "java/lang/Exception"], w ∈ lw_tbl by decide +kernel) w hw, (show ∀ w ∈ vx_atS "InterlockingBox" 328 "java/lang/IllegalStateException" ["java/lang/RuntimeException", "java/lang/Exception"], okW w = true by decide +kernel) w hw⟩⟩
theorem md_X2_takeBack : MD mX2_takeBack 1 := ⟨gw_of (List.mem_of_getElem? (i := 34) (by decide +kernel)) (by decide +kernel), ⟨by decide +kernel, by decide +kernel⟩, by decide +kernel, by decide⟩
theorem mv_X9_360 : MV "InterlockingBox" 360 mX2_takeBack 1 RX2 := ⟨md_X2_takeBack, gw_of (List.mem_of_getElem? (i := 1701) (by decide +kernel)) (by decide +kernel), gw_of (List.mem_of_getElem? (i := 1702) (by decide +kernel)) (by decide +kernel), gw_of (List.mem_of_getElem? (i := 1703) (by decide +kernel)) (by decide +kernel), gw_of (List.mem_of_getElem? (i := 1704) (by decide +kernel)) (by decide +kernel)⟩
theorem fl_X9_16 : FL "InterlockingBox" 16 0 1 1 := ⟨RX9, TX9, 12, rfl, us_X9, by decide, rfl, by decide, Or.inl (gw_of (List.mem_of_getElem? (i := 332) (by decide +kernel)) (by decide +kernel))⟩
theorem fl_X9_50 : FL "InterlockingBox" 50 0 7 0 := ⟨RX9, TX9, 12, rfl, us_X9, by decide, rfl, by decide, Or.inl (gw_of (List.mem_of_getElem? (i := 338) (by decide +kernel)) (by decide +kernel))⟩
theorem md_X2_forget : MD mX2_forget 0 := ⟨gw_of (List.mem_of_getElem? (i := 34) (by decide +kernel)) (by decide +kernel), ⟨by decide +kernel, by decide +kernel⟩, by decide +kernel, by decide⟩
theorem mv_X9_368 : MV "InterlockingBox" 368 mX2_forget 0 RX2 := ⟨md_X2_forget, gw_of (List.mem_of_getElem? (i := 1715) (by decide +kernel)) (by decide +kernel), gw_of (List.mem_of_getElem? (i := 1716) (by decide +kernel)) (by decide +kernel), gw_of (List.mem_of_getElem? (i := 1717) (by decide +kernel)) (by decide +kernel), gw_of (List.mem_of_getElem? (i := 1718) (by decide +kernel)) (by decide +kernel)⟩
theorem tw_X9_324_366 : TW "InterlockingBox" 324 366 328 "java/lang/IllegalStateException" "no state was saved" ["java/lang/RuntimeException", "java/lang/Exception"] := ⟨by decide +kernel, by decide +kernel, gw_of (List.mem_of_getElem? (i := 781) (by decide +kernel)) (by decide +kernel), gw_of (List.mem_of_getElem? (i := 53) (by decide +kernel)) (by decide +kernel), List.mem_of_getElem? (i := 22) rfl, fun w hw => ⟨(show ∀ w ∈ vx_atS "InterlockingBox" 328 "java/lang/IllegalStateException" ["java/lang/RuntimeException", "java/lang/Exception"], w ∈ lw_tbl by decide +kernel) w hw, (show ∀ w ∈ vx_atS "InterlockingBox" 328 "java/lang/IllegalStateException" ["java/lang/RuntimeException", "java/lang/Exception"], okW w = true by decide +kernel) w hw⟩⟩
theorem md_X9_addBlock : MD mX9_addBlock 1 := ⟨gw_of (List.mem_of_getElem? (i := 30) (by decide +kernel)) (by decide +kernel), ⟨by decide +kernel, by decide +kernel⟩, by decide +kernel, by decide⟩
theorem md_X9_addPoint : MD mX9_addPoint 3 := ⟨gw_of (List.mem_of_getElem? (i := 30) (by decide +kernel)) (by decide +kernel), ⟨by decide +kernel, by decide +kernel⟩, by decide +kernel, by decide⟩
theorem md_X9_addLink : MD mX9_addLink 2 := ⟨gw_of (List.mem_of_getElem? (i := 30) (by decide +kernel)) (by decide +kernel), ⟨by decide +kernel, by decide +kernel⟩, by decide +kernel, by decide⟩
theorem md_X9_shut : MD mX9_shut 1 := ⟨gw_of (List.mem_of_getElem? (i := 30) (by decide +kernel)) (by decide +kernel), ⟨by decide +kernel, by decide +kernel⟩, by decide +kernel, by decide⟩
theorem md_X9_open : MD mX9_open 1 := ⟨gw_of (List.mem_of_getElem? (i := 30) (by decide +kernel)) (by decide +kernel), ⟨by decide +kernel, by decide +kernel⟩, by decide +kernel, by decide⟩
theorem mv_L_30 : MV "InterlockingBoxLaw" 30 mX9_addLink 2 RX9 := ⟨md_X9_addLink, gw_of (List.mem_of_getElem? (i := 822) (by decide +kernel)) (by decide +kernel), gw_of (List.mem_of_getElem? (i := 823) (by decide +kernel)) (by decide +kernel), gw_of (List.mem_of_getElem? (i := 824) (by decide +kernel)) (by decide +kernel), gw_of (List.mem_of_getElem? (i := 825) (by decide +kernel)) (by decide +kernel)⟩
theorem md_X9_throwPoint : MD mX9_throwPoint 1 := ⟨gw_of (List.mem_of_getElem? (i := 30) (by decide +kernel)) (by decide +kernel), ⟨by decide +kernel, by decide +kernel⟩, by decide +kernel, by decide⟩
theorem md_X9_addTrain : MD mX9_addTrain 2 := ⟨gw_of (List.mem_of_getElem? (i := 30) (by decide +kernel)) (by decide +kernel), ⟨by decide +kernel, by decide +kernel⟩, by decide +kernel, by decide⟩
theorem mv_L_37 : MV "InterlockingBoxLaw" 37 mX9_open 1 RX9 := ⟨md_X9_open, gw_of (List.mem_of_getElem? (i := 851) (by decide +kernel)) (by decide +kernel), gw_of (List.mem_of_getElem? (i := 852) (by decide +kernel)) (by decide +kernel), gw_of (List.mem_of_getElem? (i := 853) (by decide +kernel)) (by decide +kernel), gw_of (List.mem_of_getElem? (i := 854) (by decide +kernel)) (by decide +kernel)⟩
theorem md_X9_setRoute : MD mX9_setRoute 1 := ⟨gw_of (List.mem_of_getElem? (i := 30) (by decide +kernel)) (by decide +kernel), ⟨by decide +kernel, by decide +kernel⟩, by decide +kernel, by decide⟩
theorem mv_L_40 : MV "InterlockingBoxLaw" 40 mX9_throwPoint 1 RX9 := ⟨md_X9_throwPoint, gw_of (List.mem_of_getElem? (i := 862) (by decide +kernel)) (by decide +kernel), gw_of (List.mem_of_getElem? (i := 863) (by decide +kernel)) (by decide +kernel), gw_of (List.mem_of_getElem? (i := 864) (by decide +kernel)) (by decide +kernel), gw_of (List.mem_of_getElem? (i := 865) (by decide +kernel)) (by decide +kernel)⟩
theorem md_X9_releaseRoute : MD mX9_releaseRoute 1 := ⟨gw_of (List.mem_of_getElem? (i := 30) (by decide +kernel)) (by decide +kernel), ⟨by decide +kernel, by decide +kernel⟩, by decide +kernel, by decide⟩
theorem mv_L_47 : MV "InterlockingBoxLaw" 47 mX9_setRoute 1 RX9 := ⟨md_X9_setRoute, gw_of (List.mem_of_getElem? (i := 922) (by decide +kernel)) (by decide +kernel), gw_of (List.mem_of_getElem? (i := 923) (by decide +kernel)) (by decide +kernel), gw_of (List.mem_of_getElem? (i := 924) (by decide +kernel)) (by decide +kernel), gw_of (List.mem_of_getElem? (i := 925) (by decide +kernel)) (by decide +kernel)⟩
theorem md_X9_pass : MD mX9_pass 1 := ⟨gw_of (List.mem_of_getElem? (i := 30) (by decide +kernel)) (by decide +kernel), ⟨by decide +kernel, by decide +kernel⟩, by decide +kernel, by decide⟩
theorem md_X9_blockLength : MD mX9_blockLength 1 := ⟨gw_of (List.mem_of_getElem? (i := 30) (by decide +kernel)) (by decide +kernel), ⟨by decide +kernel, by decide +kernel⟩, by decide +kernel, by decide⟩
theorem md_X9_blockState : MD mX9_blockState 1 := ⟨gw_of (List.mem_of_getElem? (i := 30) (by decide +kernel)) (by decide +kernel), ⟨by decide +kernel, by decide +kernel⟩, by decide +kernel, by decide⟩
theorem md_X9_trainAt : MD mX9_trainAt 1 := ⟨gw_of (List.mem_of_getElem? (i := 30) (by decide +kernel)) (by decide +kernel), ⟨by decide +kernel, by decide +kernel⟩, by decide +kernel, by decide⟩
theorem mv_L_60 : MV "InterlockingBoxLaw" 60 mX9_blockLength 1 RX9 := ⟨md_X9_blockLength, gw_of (List.mem_of_getElem? (i := 1340) (by decide +kernel)) (by decide +kernel), gw_of (List.mem_of_getElem? (i := 1341) (by decide +kernel)) (by decide +kernel), gw_of (List.mem_of_getElem? (i := 1342) (by decide +kernel)) (by decide +kernel), gw_of (List.mem_of_getElem? (i := 1343) (by decide +kernel)) (by decide +kernel)⟩
theorem md_X9_liesLeft : MD mX9_liesLeft 1 := ⟨gw_of (List.mem_of_getElem? (i := 30) (by decide +kernel)) (by decide +kernel), ⟨by decide +kernel, by decide +kernel⟩, by decide +kernel, by decide⟩
theorem mv_L_63 : MV "InterlockingBoxLaw" 63 mX9_blockState 1 RX9 := ⟨md_X9_blockState, gw_of (List.mem_of_getElem? (i := 486) (by decide +kernel)) (by decide +kernel), gw_of (List.mem_of_getElem? (i := 487) (by decide +kernel)) (by decide +kernel), gw_of (List.mem_of_getElem? (i := 488) (by decide +kernel)) (by decide +kernel), gw_of (List.mem_of_getElem? (i := 489) (by decide +kernel)) (by decide +kernel)⟩
theorem md_X9_lockedBy : MD mX9_lockedBy 1 := ⟨gw_of (List.mem_of_getElem? (i := 30) (by decide +kernel)) (by decide +kernel), ⟨by decide +kernel, by decide +kernel⟩, by decide +kernel, by decide⟩
theorem md_X9_routeLength : MD mX9_routeLength 2 := ⟨gw_of (List.mem_of_getElem? (i := 30) (by decide +kernel)) (by decide +kernel), ⟨by decide +kernel, by decide +kernel⟩, by decide +kernel, by decide⟩
theorem md_X9_routeLengthByPaths : MD mX9_routeLengthByPaths 2 := ⟨gw_of (List.mem_of_getElem? (i := 30) (by decide +kernel)) (by decide +kernel), ⟨by decide +kernel, by decide +kernel⟩, by decide +kernel, by decide⟩
theorem md_X9_routeBlock : MD mX9_routeBlock 3 := ⟨gw_of (List.mem_of_getElem? (i := 30) (by decide +kernel)) (by decide +kernel), ⟨by decide +kernel, by decide +kernel⟩, by decide +kernel, by decide⟩
theorem md_X9_paths : MD mX9_paths 2 := ⟨gw_of (List.mem_of_getElem? (i := 30) (by decide +kernel)) (by decide +kernel), ⟨by decide +kernel, by decide +kernel⟩, by decide +kernel, by decide⟩
theorem md_X9_blockOf : MD mX9_blockOf 1 := ⟨gw_of (List.mem_of_getElem? (i := 30) (by decide +kernel)) (by decide +kernel), ⟨by decide +kernel, by decide +kernel⟩, by decide +kernel, by decide⟩
theorem md_X9_destination : MD mX9_destination 1 := ⟨gw_of (List.mem_of_getElem? (i := 30) (by decide +kernel)) (by decide +kernel), ⟨by decide +kernel, by decide +kernel⟩, by decide +kernel, by decide⟩
theorem md_X9_hasRoute : MD mX9_hasRoute 1 := ⟨gw_of (List.mem_of_getElem? (i := 30) (by decide +kernel)) (by decide +kernel), ⟨by decide +kernel, by decide +kernel⟩, by decide +kernel, by decide⟩
theorem md_X9_isClear : MD mX9_isClear 1 := ⟨gw_of (List.mem_of_getElem? (i := 30) (by decide +kernel)) (by decide +kernel), ⟨by decide +kernel, by decide +kernel⟩, by decide +kernel, by decide⟩
theorem md_X9_minutesUntilNext : MD mX9_minutesUntilNext 1 := ⟨gw_of (List.mem_of_getElem? (i := 30) (by decide +kernel)) (by decide +kernel), ⟨by decide +kernel, by decide +kernel⟩, by decide +kernel, by decide⟩
theorem md_X9_minutesUntilArrival : MD mX9_minutesUntilArrival 1 := ⟨gw_of (List.mem_of_getElem? (i := 30) (by decide +kernel)) (by decide +kernel), ⟨by decide +kernel, by decide +kernel⟩, by decide +kernel, by decide⟩
theorem md_X9_minutesUntilArrivalByPassing : MD mX9_minutesUntilArrivalByPassing 1 := ⟨gw_of (List.mem_of_getElem? (i := 30) (by decide +kernel)) (by decide +kernel), ⟨by decide +kernel, by decide +kernel⟩, by decide +kernel, by decide⟩
theorem md_X9_delay : MD mX9_delay 1 := ⟨gw_of (List.mem_of_getElem? (i := 30) (by decide +kernel)) (by decide +kernel), ⟨by decide +kernel, by decide +kernel⟩, by decide +kernel, by decide⟩
theorem md_X9_queued : MD mX9_queued 1 := ⟨gw_of (List.mem_of_getElem? (i := 30) (by decide +kernel)) (by decide +kernel), ⟨by decide +kernel, by decide +kernel⟩, by decide +kernel, by decide⟩
theorem md_X9_waitsFor : MD mX9_waitsFor 2 := ⟨gw_of (List.mem_of_getElem? (i := 30) (by decide +kernel)) (by decide +kernel), ⟨by decide +kernel, by decide +kernel⟩, by decide +kernel, by decide⟩
theorem md_X9_conflict : MD mX9_conflict 2 := ⟨gw_of (List.mem_of_getElem? (i := 30) (by decide +kernel)) (by decide +kernel), ⟨by decide +kernel, by decide +kernel⟩, by decide +kernel, by decide⟩
theorem mv_L_112 : MV "InterlockingBoxLaw" 112 mX9_queued 1 RX9 := ⟨md_X9_queued, gw_of (List.mem_of_getElem? (i := 653) (by decide +kernel)) (by decide +kernel), gw_of (List.mem_of_getElem? (i := 654) (by decide +kernel)) (by decide +kernel), gw_of (List.mem_of_getElem? (i := 655) (by decide +kernel)) (by decide +kernel), gw_of (List.mem_of_getElem? (i := 656) (by decide +kernel)) (by decide +kernel)⟩
theorem md_X9_refusalReason : MD mX9_refusalReason 0 := ⟨gw_of (List.mem_of_getElem? (i := 30) (by decide +kernel)) (by decide +kernel), ⟨by decide +kernel, by decide +kernel⟩, by decide +kernel, by decide⟩
theorem mv_L_115 : MV "InterlockingBoxLaw" 115 mX9_waitsFor 2 RX9 := ⟨md_X9_waitsFor, gw_of (List.mem_of_getElem? (i := 1396) (by decide +kernel)) (by decide +kernel), gw_of (List.mem_of_getElem? (i := 1397) (by decide +kernel)) (by decide +kernel), gw_of (List.mem_of_getElem? (i := 1398) (by decide +kernel)) (by decide +kernel), gw_of (List.mem_of_getElem? (i := 1399) (by decide +kernel)) (by decide +kernel)⟩
theorem md_X9_refusalBlock : MD mX9_refusalBlock 0 := ⟨gw_of (List.mem_of_getElem? (i := 30) (by decide +kernel)) (by decide +kernel), ⟨by decide +kernel, by decide +kernel⟩, by decide +kernel, by decide⟩
theorem mv_L_119 : MV "InterlockingBoxLaw" 119 mX9_conflict 2 RX9 := ⟨md_X9_conflict, gw_of (List.mem_of_getElem? (i := 1411) (by decide +kernel)) (by decide +kernel), gw_of (List.mem_of_getElem? (i := 1412) (by decide +kernel)) (by decide +kernel), gw_of (List.mem_of_getElem? (i := 1413) (by decide +kernel)) (by decide +kernel), gw_of (List.mem_of_getElem? (i := 1414) (by decide +kernel)) (by decide +kernel)⟩
theorem md_X9_meanDelay : MD mX9_meanDelay 0 := ⟨gw_of (List.mem_of_getElem? (i := 30) (by decide +kernel)) (by decide +kernel), ⟨by decide +kernel, by decide +kernel⟩, by decide +kernel, by decide⟩
theorem md_X9_usedShare : MD mX9_usedShare 0 := ⟨gw_of (List.mem_of_getElem? (i := 30) (by decide +kernel)) (by decide +kernel), ⟨by decide +kernel, by decide +kernel⟩, by decide +kernel, by decide⟩
theorem md_X9_writeTrain : MD mX9_writeTrain 1 := ⟨gw_of (List.mem_of_getElem? (i := 30) (by decide +kernel)) (by decide +kernel), ⟨by decide +kernel, by decide +kernel⟩, by decide +kernel, by decide⟩
theorem md_X9_type : MD mX9_type 1 := ⟨gw_of (List.mem_of_getElem? (i := 30) (by decide +kernel)) (by decide +kernel), ⟨by decide +kernel, by decide +kernel⟩, by decide +kernel, by decide⟩
theorem md_X9_run : MD mX9_run 0 := ⟨gw_of (List.mem_of_getElem? (i := 30) (by decide +kernel)) (by decide +kernel), ⟨by decide +kernel, by decide +kernel⟩, by decide +kernel, by decide⟩
theorem mv_L_143 : MV "InterlockingBoxLaw" 143 mX9_writeTrain 1 RX9 := ⟨md_X9_writeTrain, gw_of (List.mem_of_getElem? (i := 1432) (by decide +kernel)) (by decide +kernel), gw_of (List.mem_of_getElem? (i := 1433) (by decide +kernel)) (by decide +kernel), gw_of (List.mem_of_getElem? (i := 1434) (by decide +kernel)) (by decide +kernel), gw_of (List.mem_of_getElem? (i := 1435) (by decide +kernel)) (by decide +kernel)⟩
theorem mv_L_149 : MV "InterlockingBoxLaw" 149 mX9_type 1 RX9 := ⟨md_X9_type, gw_of (List.mem_of_getElem? (i := 1213) (by decide +kernel)) (by decide +kernel), gw_of (List.mem_of_getElem? (i := 1214) (by decide +kernel)) (by decide +kernel), gw_of (List.mem_of_getElem? (i := 1215) (by decide +kernel)) (by decide +kernel), gw_of (List.mem_of_getElem? (i := 1216) (by decide +kernel)) (by decide +kernel)⟩
theorem md_X9_undo : MD mX9_undo 0 := ⟨gw_of (List.mem_of_getElem? (i := 30) (by decide +kernel)) (by decide +kernel), ⟨by decide +kernel, by decide +kernel⟩, by decide +kernel, by decide⟩
theorem md_X9_restore : MD mX9_restore 0 := ⟨gw_of (List.mem_of_getElem? (i := 30) (by decide +kernel)) (by decide +kernel), ⟨by decide +kernel, by decide +kernel⟩, by decide +kernel, by decide⟩
theorem na_1 : NA 1 .long := ⟨by decide, rfl, gw_of (List.mem_of_getElem? (i := 1719) (by decide +kernel)) (by decide +kernel)⟩
theorem md_L_addBlock : MD mL_addBlock 2 := ⟨gw_of (List.mem_of_getElem? (i := 29) (by decide +kernel)) (by decide +kernel), ⟨by decide +kernel, by decide +kernel⟩, by decide +kernel, by decide⟩
theorem md_L_addPoint : MD mL_addPoint 4 := ⟨gw_of (List.mem_of_getElem? (i := 29) (by decide +kernel)) (by decide +kernel), ⟨by decide +kernel, by decide +kernel⟩, by decide +kernel, by decide⟩
theorem md_L_addLink : MD mL_addLink 3 := ⟨gw_of (List.mem_of_getElem? (i := 29) (by decide +kernel)) (by decide +kernel), ⟨by decide +kernel, by decide +kernel⟩, by decide +kernel, by decide⟩
theorem md_L_shut : MD mL_shut 2 := ⟨gw_of (List.mem_of_getElem? (i := 29) (by decide +kernel)) (by decide +kernel), ⟨by decide +kernel, by decide +kernel⟩, by decide +kernel, by decide⟩
theorem md_L_open : MD mL_open 2 := ⟨gw_of (List.mem_of_getElem? (i := 29) (by decide +kernel)) (by decide +kernel), ⟨by decide +kernel, by decide +kernel⟩, by decide +kernel, by decide⟩
theorem msh_L_182 : MSH "InterlockingBoxLaw" 182 mL_refusalBlock 1 := ⟨md_L_refusalBlock, gw_of (List.mem_of_getElem? (i := 670) (by decide +kernel)) (by decide +kernel), gw_of (List.mem_of_getElem? (i := 671) (by decide +kernel)) (by decide +kernel), gw_of (List.mem_of_getElem? (i := 672) (by decide +kernel)) (by decide +kernel)⟩
theorem md_L_throwPoint : MD mL_throwPoint 2 := ⟨gw_of (List.mem_of_getElem? (i := 29) (by decide +kernel)) (by decide +kernel), ⟨by decide +kernel, by decide +kernel⟩, by decide +kernel, by decide⟩
theorem md_L_addTrain : MD mL_addTrain 3 := ⟨gw_of (List.mem_of_getElem? (i := 29) (by decide +kernel)) (by decide +kernel), ⟨by decide +kernel, by decide +kernel⟩, by decide +kernel, by decide⟩
theorem md_L_setRoute : MD mL_setRoute 2 := ⟨gw_of (List.mem_of_getElem? (i := 29) (by decide +kernel)) (by decide +kernel), ⟨by decide +kernel, by decide +kernel⟩, by decide +kernel, by decide⟩
theorem mv_L_196 : MV "InterlockingBoxLaw" 196 mX9_blocks 0 RX9 := ⟨md_X9_blocks, gw_of (List.mem_of_getElem? (i := 368) (by decide +kernel)) (by decide +kernel), gw_of (List.mem_of_getElem? (i := 369) (by decide +kernel)) (by decide +kernel), gw_of (List.mem_of_getElem? (i := 370) (by decide +kernel)) (by decide +kernel), gw_of (List.mem_of_getElem? (i := 371) (by decide +kernel)) (by decide +kernel)⟩
theorem md_L_releaseRoute : MD mL_releaseRoute 2 := ⟨gw_of (List.mem_of_getElem? (i := 29) (by decide +kernel)) (by decide +kernel), ⟨by decide +kernel, by decide +kernel⟩, by decide +kernel, by decide⟩
theorem md_L_pass : MD mL_pass 2 := ⟨gw_of (List.mem_of_getElem? (i := 29) (by decide +kernel)) (by decide +kernel), ⟨by decide +kernel, by decide +kernel⟩, by decide +kernel, by decide⟩
theorem md_X9_blocks : MD mX9_blocks 0 := ⟨gw_of (List.mem_of_getElem? (i := 30) (by decide +kernel)) (by decide +kernel), ⟨by decide +kernel, by decide +kernel⟩, by decide +kernel, by decide⟩
theorem md_L_blockLength : MD mL_blockLength 2 := ⟨gw_of (List.mem_of_getElem? (i := 29) (by decide +kernel)) (by decide +kernel), ⟨by decide +kernel, by decide +kernel⟩, by decide +kernel, by decide⟩
theorem md_L_blockState : MD mL_blockState 2 := ⟨gw_of (List.mem_of_getElem? (i := 29) (by decide +kernel)) (by decide +kernel), ⟨by decide +kernel, by decide +kernel⟩, by decide +kernel, by decide⟩
theorem msh_L_207 : MSH "InterlockingBoxLaw" 207 mL_minutesUntilArrival 2 := ⟨md_L_minutesUntilArrival, gw_of (List.mem_of_getElem? (i := 623) (by decide +kernel)) (by decide +kernel), gw_of (List.mem_of_getElem? (i := 624) (by decide +kernel)) (by decide +kernel), gw_of (List.mem_of_getElem? (i := 625) (by decide +kernel)) (by decide +kernel)⟩
theorem md_L_trainAt : MD mL_trainAt 2 := ⟨gw_of (List.mem_of_getElem? (i := 29) (by decide +kernel)) (by decide +kernel), ⟨by decide +kernel, by decide +kernel⟩, by decide +kernel, by decide⟩
theorem md_L_liesLeft : MD mL_liesLeft 2 := ⟨gw_of (List.mem_of_getElem? (i := 29) (by decide +kernel)) (by decide +kernel), ⟨by decide +kernel, by decide +kernel⟩, by decide +kernel, by decide⟩
theorem md_L_lockedBy : MD mL_lockedBy 2 := ⟨gw_of (List.mem_of_getElem? (i := 29) (by decide +kernel)) (by decide +kernel), ⟨by decide +kernel, by decide +kernel⟩, by decide +kernel, by decide⟩
theorem md_L_routeLength : MD mL_routeLength 3 := ⟨gw_of (List.mem_of_getElem? (i := 29) (by decide +kernel)) (by decide +kernel), ⟨by decide +kernel, by decide +kernel⟩, by decide +kernel, by decide⟩
theorem mv_L_224 : MV "InterlockingBoxLaw" 224 mX9_trains 0 RX9 := ⟨md_X9_trains, gw_of (List.mem_of_getElem? (i := 372) (by decide +kernel)) (by decide +kernel), gw_of (List.mem_of_getElem? (i := 373) (by decide +kernel)) (by decide +kernel), gw_of (List.mem_of_getElem? (i := 374) (by decide +kernel)) (by decide +kernel), gw_of (List.mem_of_getElem? (i := 375) (by decide +kernel)) (by decide +kernel)⟩
theorem md_L_routeLengthByPaths : MD mL_routeLengthByPaths 3 := ⟨gw_of (List.mem_of_getElem? (i := 29) (by decide +kernel)) (by decide +kernel), ⟨by decide +kernel, by decide +kernel⟩, by decide +kernel, by decide⟩
theorem md_L_routeBlock : MD mL_routeBlock 4 := ⟨gw_of (List.mem_of_getElem? (i := 29) (by decide +kernel)) (by decide +kernel), ⟨by decide +kernel, by decide +kernel⟩, by decide +kernel, by decide⟩
theorem md_L_paths : MD mL_paths 3 := ⟨gw_of (List.mem_of_getElem? (i := 29) (by decide +kernel)) (by decide +kernel), ⟨by decide +kernel, by decide +kernel⟩, by decide +kernel, by decide⟩
theorem md_X9_trains : MD mX9_trains 0 := ⟨gw_of (List.mem_of_getElem? (i := 30) (by decide +kernel)) (by decide +kernel), ⟨by decide +kernel, by decide +kernel⟩, by decide +kernel, by decide⟩
theorem mv_L_238 : MV "InterlockingBoxLaw" 238 mX9_isPresent 1 RX9 := ⟨md_X9_isPresent, gw_of (List.mem_of_getElem? (i := 376) (by decide +kernel)) (by decide +kernel), gw_of (List.mem_of_getElem? (i := 377) (by decide +kernel)) (by decide +kernel), gw_of (List.mem_of_getElem? (i := 378) (by decide +kernel)) (by decide +kernel), gw_of (List.mem_of_getElem? (i := 379) (by decide +kernel)) (by decide +kernel)⟩
theorem md_X9_isPresent : MD mX9_isPresent 1 := ⟨gw_of (List.mem_of_getElem? (i := 30) (by decide +kernel)) (by decide +kernel), ⟨by decide +kernel, by decide +kernel⟩, by decide +kernel, by decide⟩
theorem md_L_blockOf : MD mL_blockOf 2 := ⟨gw_of (List.mem_of_getElem? (i := 29) (by decide +kernel)) (by decide +kernel), ⟨by decide +kernel, by decide +kernel⟩, by decide +kernel, by decide⟩
theorem md_L_destination : MD mL_destination 2 := ⟨gw_of (List.mem_of_getElem? (i := 29) (by decide +kernel)) (by decide +kernel), ⟨by decide +kernel, by decide +kernel⟩, by decide +kernel, by decide⟩
theorem md_L_hasRoute : MD mL_hasRoute 2 := ⟨gw_of (List.mem_of_getElem? (i := 29) (by decide +kernel)) (by decide +kernel), ⟨by decide +kernel, by decide +kernel⟩, by decide +kernel, by decide⟩
theorem msh_L_245 : MSH "InterlockingBoxLaw" 245 mL_blockState 2 := ⟨md_L_blockState, gw_of (List.mem_of_getElem? (i := 403) (by decide +kernel)) (by decide +kernel), gw_of (List.mem_of_getElem? (i := 404) (by decide +kernel)) (by decide +kernel), gw_of (List.mem_of_getElem? (i := 405) (by decide +kernel)) (by decide +kernel)⟩
theorem md_L_isClear : MD mL_isClear 2 := ⟨gw_of (List.mem_of_getElem? (i := 29) (by decide +kernel)) (by decide +kernel), ⟨by decide +kernel, by decide +kernel⟩, by decide +kernel, by decide⟩
theorem md_L_minutesUntilNext : MD mL_minutesUntilNext 2 := ⟨gw_of (List.mem_of_getElem? (i := 29) (by decide +kernel)) (by decide +kernel), ⟨by decide +kernel, by decide +kernel⟩, by decide +kernel, by decide⟩
theorem md_L_minutesUntilArrival : MD mL_minutesUntilArrival 2 := ⟨gw_of (List.mem_of_getElem? (i := 29) (by decide +kernel)) (by decide +kernel), ⟨by decide +kernel, by decide +kernel⟩, by decide +kernel, by decide⟩
end
section
theorem md_L_minutesUntilArrivalByPassing : MD mL_minutesUntilArrivalByPassing 2 := ⟨gw_of (List.mem_of_getElem? (i := 29) (by decide +kernel)) (by decide +kernel), ⟨by decide +kernel, by decide +kernel⟩, by decide +kernel, by decide⟩
theorem md_L_delay : MD mL_delay 2 := ⟨gw_of (List.mem_of_getElem? (i := 29) (by decide +kernel)) (by decide +kernel), ⟨by decide +kernel, by decide +kernel⟩, by decide +kernel, by decide⟩
theorem md_L_queued : MD mL_queued 2 := ⟨gw_of (List.mem_of_getElem? (i := 29) (by decide +kernel)) (by decide +kernel), ⟨by decide +kernel, by decide +kernel⟩, by decide +kernel, by decide⟩
theorem msh_L_263 : MSH "InterlockingBoxLaw" 263 mL_shut 2 := ⟨md_L_shut, gw_of (List.mem_of_getElem? (i := 830) (by decide +kernel)) (by decide +kernel), gw_of (List.mem_of_getElem? (i := 831) (by decide +kernel)) (by decide +kernel), gw_of (List.mem_of_getElem? (i := 832) (by decide +kernel)) (by decide +kernel)⟩
theorem md_L_waitsFor : MD mL_waitsFor 3 := ⟨gw_of (List.mem_of_getElem? (i := 29) (by decide +kernel)) (by decide +kernel), ⟨by decide +kernel, by decide +kernel⟩, by decide +kernel, by decide⟩
theorem md_X9_deadlocked : MD mX9_deadlocked 0 := ⟨gw_of (List.mem_of_getElem? (i := 30) (by decide +kernel)) (by decide +kernel), ⟨by decide +kernel, by decide +kernel⟩, by decide +kernel, by decide⟩
theorem md_X9_deadlockedByPairs : MD mX9_deadlockedByPairs 0 := ⟨gw_of (List.mem_of_getElem? (i := 30) (by decide +kernel)) (by decide +kernel), ⟨by decide +kernel, by decide +kernel⟩, by decide +kernel, by decide⟩
theorem md_L_conflict : MD mL_conflict 3 := ⟨gw_of (List.mem_of_getElem? (i := 29) (by decide +kernel)) (by decide +kernel), ⟨by decide +kernel, by decide +kernel⟩, by decide +kernel, by decide⟩
theorem md_X9_mostWithoutConflict : MD mX9_mostWithoutConflict 0 := ⟨gw_of (List.mem_of_getElem? (i := 30) (by decide +kernel)) (by decide +kernel), ⟨by decide +kernel, by decide +kernel⟩, by decide +kernel, by decide⟩
theorem mv_L_280 : MV "InterlockingBoxLaw" 280 mJ4_append_15ec4 1 RJ4 := ⟨md_J4_append_15ec4, gw_of (List.mem_of_getElem? (i := 974) (by decide +kernel)) (by decide +kernel), gw_of (List.mem_of_getElem? (i := 975) (by decide +kernel)) (by decide +kernel), gw_of (List.mem_of_getElem? (i := 976) (by decide +kernel)) (by decide +kernel), gw_of (List.mem_of_getElem? (i := 977) (by decide +kernel)) (by decide +kernel)⟩
theorem md_X9_mostWithoutConflictBySets : MD mX9_mostWithoutConflictBySets 0 := ⟨gw_of (List.mem_of_getElem? (i := 30) (by decide +kernel)) (by decide +kernel), ⟨by decide +kernel, by decide +kernel⟩, by decide +kernel, by decide⟩
theorem mv_L_284 : MV "InterlockingBoxLaw" 284 mJ4_append_bf812 1 RJ4 := ⟨md_J4_append_bf812, gw_of (List.mem_of_getElem? (i := 1090) (by decide +kernel)) (by decide +kernel), gw_of (List.mem_of_getElem? (i := 1091) (by decide +kernel)) (by decide +kernel), gw_of (List.mem_of_getElem? (i := 1092) (by decide +kernel)) (by decide +kernel), gw_of (List.mem_of_getElem? (i := 1093) (by decide +kernel)) (by decide +kernel)⟩
theorem md_L_refusalReason : MD mL_refusalReason 1 := ⟨gw_of (List.mem_of_getElem? (i := 29) (by decide +kernel)) (by decide +kernel), ⟨by decide +kernel, by decide +kernel⟩, by decide +kernel, by decide⟩
theorem md_L_refusalBlock : MD mL_refusalBlock 1 := ⟨gw_of (List.mem_of_getElem? (i := 29) (by decide +kernel)) (by decide +kernel), ⟨by decide +kernel, by decide +kernel⟩, by decide +kernel, by decide⟩
theorem md_X9_time : MD mX9_time 0 := ⟨gw_of (List.mem_of_getElem? (i := 30) (by decide +kernel)) (by decide +kernel), ⟨by decide +kernel, by decide +kernel⟩, by decide +kernel, by decide⟩
theorem md_X9_arrived : MD mX9_arrived 0 := ⟨gw_of (List.mem_of_getElem? (i := 30) (by decide +kernel)) (by decide +kernel), ⟨by decide +kernel, by decide +kernel⟩, by decide +kernel, by decide⟩
theorem md_X9_totalDelay : MD mX9_totalDelay 0 := ⟨gw_of (List.mem_of_getElem? (i := 30) (by decide +kernel)) (by decide +kernel), ⟨by decide +kernel, by decide +kernel⟩, by decide +kernel, by decide⟩
theorem md_L_meanDelay : MD mL_meanDelay 1 := ⟨gw_of (List.mem_of_getElem? (i := 29) (by decide +kernel)) (by decide +kernel), ⟨by decide +kernel, by decide +kernel⟩, by decide +kernel, by decide⟩
theorem md_L_usedShare : MD mL_usedShare 1 := ⟨gw_of (List.mem_of_getElem? (i := 29) (by decide +kernel)) (by decide +kernel), ⟨by decide +kernel, by decide +kernel⟩, by decide +kernel, by decide⟩
theorem md_X9_isConsistent : MD mX9_isConsistent 0 := ⟨gw_of (List.mem_of_getElem? (i := 30) (by decide +kernel)) (by decide +kernel), ⟨by decide +kernel, by decide +kernel⟩, by decide +kernel, by decide⟩
theorem md_L_writeTrain : MD mL_writeTrain 2 := ⟨gw_of (List.mem_of_getElem? (i := 29) (by decide +kernel)) (by decide +kernel), ⟨by decide +kernel, by decide +kernel⟩, by decide +kernel, by decide⟩
theorem msh_L_327 : MSH "InterlockingBoxLaw" 327 mL_waitsFor 3 := ⟨md_L_waitsFor, gw_of (List.mem_of_getElem? (i := 1393) (by decide +kernel)) (by decide +kernel), gw_of (List.mem_of_getElem? (i := 1394) (by decide +kernel)) (by decide +kernel), gw_of (List.mem_of_getElem? (i := 1395) (by decide +kernel)) (by decide +kernel)⟩
theorem md_L_type : MD mL_type 2 := ⟨gw_of (List.mem_of_getElem? (i := 29) (by decide +kernel)) (by decide +kernel), ⟨by decide +kernel, by decide +kernel⟩, by decide +kernel, by decide⟩
theorem md_L_run : MD mL_run 1 := ⟨gw_of (List.mem_of_getElem? (i := 29) (by decide +kernel)) (by decide +kernel), ⟨by decide +kernel, by decide +kernel⟩, by decide +kernel, by decide⟩
theorem mv_L_342 : MV "InterlockingBoxLaw" 342 mX9_deadlocked 0 RX9 := ⟨md_X9_deadlocked, gw_of (List.mem_of_getElem? (i := 1540) (by decide +kernel)) (by decide +kernel), gw_of (List.mem_of_getElem? (i := 1541) (by decide +kernel)) (by decide +kernel), gw_of (List.mem_of_getElem? (i := 1542) (by decide +kernel)) (by decide +kernel), gw_of (List.mem_of_getElem? (i := 1543) (by decide +kernel)) (by decide +kernel)⟩
theorem mv_L_345 : MV "InterlockingBoxLaw" 345 mX9_mostWithoutConflict 0 RX9 := ⟨md_X9_mostWithoutConflict, gw_of (List.mem_of_getElem? (i := 1576) (by decide +kernel)) (by decide +kernel), gw_of (List.mem_of_getElem? (i := 1577) (by decide +kernel)) (by decide +kernel), gw_of (List.mem_of_getElem? (i := 1578) (by decide +kernel)) (by decide +kernel), gw_of (List.mem_of_getElem? (i := 1579) (by decide +kernel)) (by decide +kernel)⟩
theorem md_L_undo : MD mL_undo 1 := ⟨gw_of (List.mem_of_getElem? (i := 29) (by decide +kernel)) (by decide +kernel), ⟨by decide +kernel, by decide +kernel⟩, by decide +kernel, by decide⟩
theorem md_X9_save : MD mX9_save 0 := ⟨gw_of (List.mem_of_getElem? (i := 30) (by decide +kernel)) (by decide +kernel), ⟨by decide +kernel, by decide +kernel⟩, by decide +kernel, by decide⟩
theorem md_L_restore : MD mL_restore 1 := ⟨gw_of (List.mem_of_getElem? (i := 29) (by decide +kernel)) (by decide +kernel), ⟨by decide +kernel, by decide +kernel⟩, by decide +kernel, by decide⟩
theorem md_X9_init : MD mX9_init 0 := ⟨gw_of (List.mem_of_getElem? (i := 30) (by decide +kernel)) (by decide +kernel), ⟨by decide +kernel, by decide +kernel⟩, by decide +kernel, by decide⟩
theorem gc_L_7 : Cond.constant "InterlockingBoxLaw" 7 (nI 40503) ∈ gw := gw_of (List.mem_of_getElem? (i := 402) (by decide +kernel)) (by decide +kernel)
theorem md_L_cell : MD mL_cell 2 := ⟨gw_of (List.mem_of_getElem? (i := 29) (by decide +kernel)) (by decide +kernel), ⟨by decide +kernel, by decide +kernel⟩, by decide +kernel, by decide⟩
theorem ms_L_8 : MS "InterlockingBoxLaw" 8 mL_cell 2 := ⟨md_L_cell, gw_of (List.mem_of_getElem? (i := 399) (by decide +kernel)) (by decide +kernel), gw_of (List.mem_of_getElem? (i := 400) (by decide +kernel)) (by decide +kernel), gw_of (List.mem_of_getElem? (i := 401) (by decide +kernel)) (by decide +kernel)⟩
theorem mv_L_14 : MV "InterlockingBoxLaw" 14 mX9_addBlock 1 RX9 := ⟨md_X9_addBlock, gw_of (List.mem_of_getElem? (i := 693) (by decide +kernel)) (by decide +kernel), gw_of (List.mem_of_getElem? (i := 694) (by decide +kernel)) (by decide +kernel), gw_of (List.mem_of_getElem? (i := 695) (by decide +kernel)) (by decide +kernel), gw_of (List.mem_of_getElem? (i := 696) (by decide +kernel)) (by decide +kernel)⟩
theorem mv_L_24 : MV "InterlockingBoxLaw" 24 mX9_addPoint 3 RX9 := ⟨md_X9_addPoint, gw_of (List.mem_of_getElem? (i := 807) (by decide +kernel)) (by decide +kernel), gw_of (List.mem_of_getElem? (i := 808) (by decide +kernel)) (by decide +kernel), gw_of (List.mem_of_getElem? (i := 809) (by decide +kernel)) (by decide +kernel), gw_of (List.mem_of_getElem? (i := 810) (by decide +kernel)) (by decide +kernel)⟩
theorem mv_L_34 : MV "InterlockingBoxLaw" 34 mX9_shut 1 RX9 := ⟨md_X9_shut, gw_of (List.mem_of_getElem? (i := 833) (by decide +kernel)) (by decide +kernel), gw_of (List.mem_of_getElem? (i := 834) (by decide +kernel)) (by decide +kernel), gw_of (List.mem_of_getElem? (i := 835) (by decide +kernel)) (by decide +kernel), gw_of (List.mem_of_getElem? (i := 836) (by decide +kernel)) (by decide +kernel)⟩
theorem mv_L_44 : MV "InterlockingBoxLaw" 44 mX9_addTrain 2 RX9 := ⟨md_X9_addTrain, gw_of (List.mem_of_getElem? (i := 902) (by decide +kernel)) (by decide +kernel), gw_of (List.mem_of_getElem? (i := 903) (by decide +kernel)) (by decide +kernel), gw_of (List.mem_of_getElem? (i := 904) (by decide +kernel)) (by decide +kernel), gw_of (List.mem_of_getElem? (i := 905) (by decide +kernel)) (by decide +kernel)⟩
theorem mv_L_54 : MV "InterlockingBoxLaw" 54 mX9_releaseRoute 1 RX9 := ⟨md_X9_releaseRoute, gw_of (List.mem_of_getElem? (i := 963) (by decide +kernel)) (by decide +kernel), gw_of (List.mem_of_getElem? (i := 964) (by decide +kernel)) (by decide +kernel), gw_of (List.mem_of_getElem? (i := 965) (by decide +kernel)) (by decide +kernel), gw_of (List.mem_of_getElem? (i := 966) (by decide +kernel)) (by decide +kernel)⟩
theorem mv_L_57 : MV "InterlockingBoxLaw" 57 mX9_pass 1 RX9 := ⟨md_X9_pass, gw_of (List.mem_of_getElem? (i := 1315) (by decide +kernel)) (by decide +kernel), gw_of (List.mem_of_getElem? (i := 1316) (by decide +kernel)) (by decide +kernel), gw_of (List.mem_of_getElem? (i := 1317) (by decide +kernel)) (by decide +kernel), gw_of (List.mem_of_getElem? (i := 1318) (by decide +kernel)) (by decide +kernel)⟩
theorem mv_L_67 : MV "InterlockingBoxLaw" 67 mX9_trainAt 1 RX9 := ⟨md_X9_trainAt, gw_of (List.mem_of_getElem? (i := 1328) (by decide +kernel)) (by decide +kernel), gw_of (List.mem_of_getElem? (i := 1329) (by decide +kernel)) (by decide +kernel), gw_of (List.mem_of_getElem? (i := 1330) (by decide +kernel)) (by decide +kernel), gw_of (List.mem_of_getElem? (i := 1331) (by decide +kernel)) (by decide +kernel)⟩
theorem mv_L_70 : MV "InterlockingBoxLaw" 70 mX9_liesLeft 1 RX9 := ⟨md_X9_liesLeft, gw_of (List.mem_of_getElem? (i := 1367) (by decide +kernel)) (by decide +kernel), gw_of (List.mem_of_getElem? (i := 1368) (by decide +kernel)) (by decide +kernel), gw_of (List.mem_of_getElem? (i := 1369) (by decide +kernel)) (by decide +kernel), gw_of (List.mem_of_getElem? (i := 1370) (by decide +kernel)) (by decide +kernel)⟩
theorem mv_L_73 : MV "InterlockingBoxLaw" 73 mX9_lockedBy 1 RX9 := ⟨md_X9_lockedBy, gw_of (List.mem_of_getElem? (i := 1381) (by decide +kernel)) (by decide +kernel), gw_of (List.mem_of_getElem? (i := 1382) (by decide +kernel)) (by decide +kernel), gw_of (List.mem_of_getElem? (i := 1383) (by decide +kernel)) (by decide +kernel), gw_of (List.mem_of_getElem? (i := 1384) (by decide +kernel)) (by decide +kernel)⟩
theorem mv_L_76 : MV "InterlockingBoxLaw" 76 mX9_routeLength 2 RX9 := ⟨md_X9_routeLength, gw_of (List.mem_of_getElem? (i := 534) (by decide +kernel)) (by decide +kernel), gw_of (List.mem_of_getElem? (i := 535) (by decide +kernel)) (by decide +kernel), gw_of (List.mem_of_getElem? (i := 536) (by decide +kernel)) (by decide +kernel), gw_of (List.mem_of_getElem? (i := 537) (by decide +kernel)) (by decide +kernel)⟩
theorem mv_L_79 : MV "InterlockingBoxLaw" 79 mX9_routeLengthByPaths 2 RX9 := ⟨md_X9_routeLengthByPaths, gw_of (List.mem_of_getElem? (i := 1514) (by decide +kernel)) (by decide +kernel), gw_of (List.mem_of_getElem? (i := 1515) (by decide +kernel)) (by decide +kernel), gw_of (List.mem_of_getElem? (i := 1516) (by decide +kernel)) (by decide +kernel), gw_of (List.mem_of_getElem? (i := 1517) (by decide +kernel)) (by decide +kernel)⟩
theorem mv_L_82 : MV "InterlockingBoxLaw" 82 mX9_routeBlock 3 RX9 := ⟨md_X9_routeBlock, gw_of (List.mem_of_getElem? (i := 1530) (by decide +kernel)) (by decide +kernel), gw_of (List.mem_of_getElem? (i := 1531) (by decide +kernel)) (by decide +kernel), gw_of (List.mem_of_getElem? (i := 1532) (by decide +kernel)) (by decide +kernel), gw_of (List.mem_of_getElem? (i := 1533) (by decide +kernel)) (by decide +kernel)⟩
theorem mv_L_85 : MV "InterlockingBoxLaw" 85 mX9_paths 2 RX9 := ⟨md_X9_paths, gw_of (List.mem_of_getElem? (i := 1348) (by decide +kernel)) (by decide +kernel), gw_of (List.mem_of_getElem? (i := 1349) (by decide +kernel)) (by decide +kernel), gw_of (List.mem_of_getElem? (i := 1350) (by decide +kernel)) (by decide +kernel), gw_of (List.mem_of_getElem? (i := 1351) (by decide +kernel)) (by decide +kernel)⟩
theorem mv_L_88 : MV "InterlockingBoxLaw" 88 mX9_blockOf 1 RX9 := ⟨md_X9_blockOf, gw_of (List.mem_of_getElem? (i := 571) (by decide +kernel)) (by decide +kernel), gw_of (List.mem_of_getElem? (i := 572) (by decide +kernel)) (by decide +kernel), gw_of (List.mem_of_getElem? (i := 573) (by decide +kernel)) (by decide +kernel), gw_of (List.mem_of_getElem? (i := 574) (by decide +kernel)) (by decide +kernel)⟩
theorem mv_L_91 : MV "InterlockingBoxLaw" 91 mX9_destination 1 RX9 := ⟨md_X9_destination, gw_of (List.mem_of_getElem? (i := 583) (by decide +kernel)) (by decide +kernel), gw_of (List.mem_of_getElem? (i := 584) (by decide +kernel)) (by decide +kernel), gw_of (List.mem_of_getElem? (i := 585) (by decide +kernel)) (by decide +kernel), gw_of (List.mem_of_getElem? (i := 586) (by decide +kernel)) (by decide +kernel)⟩
theorem mv_L_94 : MV "InterlockingBoxLaw" 94 mX9_hasRoute 1 RX9 := ⟨md_X9_hasRoute, gw_of (List.mem_of_getElem? (i := 590) (by decide +kernel)) (by decide +kernel), gw_of (List.mem_of_getElem? (i := 591) (by decide +kernel)) (by decide +kernel), gw_of (List.mem_of_getElem? (i := 592) (by decide +kernel)) (by decide +kernel), gw_of (List.mem_of_getElem? (i := 593) (by decide +kernel)) (by decide +kernel)⟩
theorem mv_L_97 : MV "InterlockingBoxLaw" 97 mX9_isClear 1 RX9 := ⟨md_X9_isClear, gw_of (List.mem_of_getElem? (i := 601) (by decide +kernel)) (by decide +kernel), gw_of (List.mem_of_getElem? (i := 602) (by decide +kernel)) (by decide +kernel), gw_of (List.mem_of_getElem? (i := 603) (by decide +kernel)) (by decide +kernel), gw_of (List.mem_of_getElem? (i := 604) (by decide +kernel)) (by decide +kernel)⟩
theorem mv_L_100 : MV "InterlockingBoxLaw" 100 mX9_minutesUntilNext 1 RX9 := ⟨md_X9_minutesUntilNext, gw_of (List.mem_of_getElem? (i := 614) (by decide +kernel)) (by decide +kernel), gw_of (List.mem_of_getElem? (i := 615) (by decide +kernel)) (by decide +kernel), gw_of (List.mem_of_getElem? (i := 616) (by decide +kernel)) (by decide +kernel), gw_of (List.mem_of_getElem? (i := 617) (by decide +kernel)) (by decide +kernel)⟩
theorem mv_L_103 : MV "InterlockingBoxLaw" 103 mX9_minutesUntilArrival 1 RX9 := ⟨md_X9_minutesUntilArrival, gw_of (List.mem_of_getElem? (i := 626) (by decide +kernel)) (by decide +kernel), gw_of (List.mem_of_getElem? (i := 627) (by decide +kernel)) (by decide +kernel), gw_of (List.mem_of_getElem? (i := 628) (by decide +kernel)) (by decide +kernel), gw_of (List.mem_of_getElem? (i := 629) (by decide +kernel)) (by decide +kernel)⟩
theorem mv_L_106 : MV "InterlockingBoxLaw" 106 mX9_minutesUntilArrivalByPassing 1 RX9 := ⟨md_X9_minutesUntilArrivalByPassing, gw_of (List.mem_of_getElem? (i := 1423) (by decide +kernel)) (by decide +kernel), gw_of (List.mem_of_getElem? (i := 1424) (by decide +kernel)) (by decide +kernel), gw_of (List.mem_of_getElem? (i := 1425) (by decide +kernel)) (by decide +kernel), gw_of (List.mem_of_getElem? (i := 1426) (by decide +kernel)) (by decide +kernel)⟩
theorem mv_L_109 : MV "InterlockingBoxLaw" 109 mX9_delay 1 RX9 := ⟨md_X9_delay, gw_of (List.mem_of_getElem? (i := 646) (by decide +kernel)) (by decide +kernel), gw_of (List.mem_of_getElem? (i := 647) (by decide +kernel)) (by decide +kernel), gw_of (List.mem_of_getElem? (i := 648) (by decide +kernel)) (by decide +kernel), gw_of (List.mem_of_getElem? (i := 649) (by decide +kernel)) (by decide +kernel)⟩
theorem mv_L_122 : MV "InterlockingBoxLaw" 122 mX9_refusalReason 0 RX9 := ⟨md_X9_refusalReason, gw_of (List.mem_of_getElem? (i := 665) (by decide +kernel)) (by decide +kernel), gw_of (List.mem_of_getElem? (i := 666) (by decide +kernel)) (by decide +kernel), gw_of (List.mem_of_getElem? (i := 667) (by decide +kernel)) (by decide +kernel), gw_of (List.mem_of_getElem? (i := 668) (by decide +kernel)) (by decide +kernel)⟩
theorem mv_L_126 : MV "InterlockingBoxLaw" 126 mX9_refusalBlock 0 RX9 := ⟨md_X9_refusalBlock, gw_of (List.mem_of_getElem? (i := 673) (by decide +kernel)) (by decide +kernel), gw_of (List.mem_of_getElem? (i := 674) (by decide +kernel)) (by decide +kernel), gw_of (List.mem_of_getElem? (i := 675) (by decide +kernel)) (by decide +kernel), gw_of (List.mem_of_getElem? (i := 676) (by decide +kernel)) (by decide +kernel)⟩
theorem gcd_L_136 : Cond.constantDouble "InterlockingBoxLaw" 136 13858279740860792832 ∈ gw := gw_of (List.mem_of_getElem? (i := 1674) (by decide +kernel)) (by decide +kernel)
theorem mv_L_130 : MV "InterlockingBoxLaw" 130 mX9_meanDelay 0 RX9 := ⟨md_X9_meanDelay, gw_of (List.mem_of_getElem? (i := 1667) (by decide +kernel)) (by decide +kernel), gw_of (List.mem_of_getElem? (i := 1668) (by decide +kernel)) (by decide +kernel), gw_of (List.mem_of_getElem? (i := 1669) (by decide +kernel)) (by decide +kernel), gw_of (List.mem_of_getElem? (i := 1670) (by decide +kernel)) (by decide +kernel)⟩
theorem gcf_L_142 : Cond.constantFloat "InterlockingBoxLaw" 142 3264479232 ∈ gw := gw_of (List.mem_of_getElem? (i := 1685) (by decide +kernel)) (by decide +kernel)
theorem mv_L_138 : MV "InterlockingBoxLaw" 138 mX9_usedShare 0 RX9 := ⟨md_X9_usedShare, gw_of (List.mem_of_getElem? (i := 1678) (by decide +kernel)) (by decide +kernel), gw_of (List.mem_of_getElem? (i := 1679) (by decide +kernel)) (by decide +kernel), gw_of (List.mem_of_getElem? (i := 1680) (by decide +kernel)) (by decide +kernel), gw_of (List.mem_of_getElem? (i := 1681) (by decide +kernel)) (by decide +kernel)⟩
theorem mv_L_153 : MV "InterlockingBoxLaw" 153 mX9_run 0 RX9 := ⟨md_X9_run, gw_of (List.mem_of_getElem? (i := 1225) (by decide +kernel)) (by decide +kernel), gw_of (List.mem_of_getElem? (i := 1226) (by decide +kernel)) (by decide +kernel), gw_of (List.mem_of_getElem? (i := 1227) (by decide +kernel)) (by decide +kernel), gw_of (List.mem_of_getElem? (i := 1228) (by decide +kernel)) (by decide +kernel)⟩
theorem mv_L_162 : MV "InterlockingBoxLaw" 162 mX9_undo 0 RX9 := ⟨md_X9_undo, gw_of (List.mem_of_getElem? (i := 1697) (by decide +kernel)) (by decide +kernel), gw_of (List.mem_of_getElem? (i := 1698) (by decide +kernel)) (by decide +kernel), gw_of (List.mem_of_getElem? (i := 1699) (by decide +kernel)) (by decide +kernel), gw_of (List.mem_of_getElem? (i := 1700) (by decide +kernel)) (by decide +kernel)⟩
theorem mv_L_165 : MV "InterlockingBoxLaw" 165 mX9_restore 0 RX9 := ⟨md_X9_restore, gw_of (List.mem_of_getElem? (i := 1710) (by decide +kernel)) (by decide +kernel), gw_of (List.mem_of_getElem? (i := 1711) (by decide +kernel)) (by decide +kernel), gw_of (List.mem_of_getElem? (i := 1712) (by decide +kernel)) (by decide +kernel), gw_of (List.mem_of_getElem? (i := 1713) (by decide +kernel)) (by decide +kernel)⟩
theorem us_J0 : ∀ w ∈ u_ws RJ0 TJ0 4, w ∈ gw := fun w hw => gw_of ((show ∀ w ∈ u_ws RJ0 TJ0 4, w ∈ lw_tbl by decide +kernel) w hw) ((show ∀ w ∈ u_ws RJ0 TJ0 4, goodWord w = true by decide +kernel) w hw)
theorem fl_J0_15 : FL "java/lang/String" 15 7 1 0 := ⟨RJ0, TJ0, 4, rfl, us_J0, by decide, rfl, by decide, Or.inl (gw_of (List.mem_of_getElem? (i := 1173) (by decide +kernel)) (by decide +kernel))⟩
theorem fl_J0_9 : FL "java/lang/String" 9 7 0 1 := ⟨RJ0, TJ0, 4, rfl, us_J0, by decide, rfl, by decide, Or.inl (gw_of (List.mem_of_getElem? (i := 1172) (by decide +kernel)) (by decide +kernel))⟩
theorem md_J0U_coder : MD mJ0U_coder 0 := ⟨gw_of (List.mem_of_getElem? (i := 41) (by decide +kernel)) (by decide +kernel), ⟨by decide +kernel, by decide +kernel⟩, by decide +kernel, by decide⟩
theorem mv_J0_335U : MV "java/lang/String" 335 mJ0U_coder 0 RJ0 := ⟨md_J0U_coder, gw_of (List.mem_of_getElem? (i := 1051) (by decide +kernel)) (by decide +kernel), gw_of (List.mem_of_getElem? (i := 1052) (by decide +kernel)) (by decide +kernel), gw_of (List.mem_of_getElem? (i := 1053) (by decide +kernel)) (by decide +kernel), gw_of (List.mem_of_getElem? (i := 1054) (by decide +kernel)) (by decide +kernel)⟩
theorem md_J0U_isLatin1 : MD mJ0U_isLatin1 0 := ⟨gw_of (List.mem_of_getElem? (i := 41) (by decide +kernel)) (by decide +kernel), ⟨by decide +kernel, by decide +kernel⟩, by decide +kernel, by decide⟩
theorem mv_J0_492U : MV "java/lang/String" 492 mJ0U_isLatin1 0 RJ0 := ⟨md_J0U_isLatin1, gw_of (List.mem_of_getElem? (i := 1190) (by decide +kernel)) (by decide +kernel), gw_of (List.mem_of_getElem? (i := 1191) (by decide +kernel)) (by decide +kernel), gw_of (List.mem_of_getElem? (i := 1192) (by decide +kernel)) (by decide +kernel), gw_of (List.mem_of_getElem? (i := 1193) (by decide +kernel)) (by decide +kernel)⟩
theorem msh_L_177 : MSH "InterlockingBoxLaw" 177 mL_run 1 := ⟨md_L_run, gw_of (List.mem_of_getElem? (i := 1222) (by decide +kernel)) (by decide +kernel), gw_of (List.mem_of_getElem? (i := 1223) (by decide +kernel)) (by decide +kernel), gw_of (List.mem_of_getElem? (i := 1224) (by decide +kernel)) (by decide +kernel)⟩
theorem msh_L_174 : MSH "InterlockingBoxLaw" 174 mL_type 2 := ⟨md_L_type, gw_of (List.mem_of_getElem? (i := 1210) (by decide +kernel)) (by decide +kernel), gw_of (List.mem_of_getElem? (i := 1211) (by decide +kernel)) (by decide +kernel), gw_of (List.mem_of_getElem? (i := 1212) (by decide +kernel)) (by decide +kernel)⟩
theorem md_J0U_charAt : MD mJ0U_charAt 1 := ⟨gw_of (List.mem_of_getElem? (i := 41) (by decide +kernel)) (by decide +kernel), ⟨by decide +kernel, by decide +kernel⟩, by decide +kernel, by decide⟩
theorem mv_L_173U : MV "InterlockingBoxLaw" 173 mJ0U_charAt 1 RJ0 := ⟨md_J0U_charAt, gw_of (List.mem_of_getElem? (i := 1186) (by decide +kernel)) (by decide +kernel), gw_of (List.mem_of_getElem? (i := 1187) (by decide +kernel)) (by decide +kernel), gw_of (List.mem_of_getElem? (i := 1188) (by decide +kernel)) (by decide +kernel), gw_of (List.mem_of_getElem? (i := 1189) (by decide +kernel)) (by decide +kernel)⟩
theorem md_J0U_length : MD mJ0U_length 0 := ⟨gw_of (List.mem_of_getElem? (i := 41) (by decide +kernel)) (by decide +kernel), ⟨by decide +kernel, by decide +kernel⟩, by decide +kernel, by decide⟩
theorem mv_L_168U : MV "InterlockingBoxLaw" 168 mJ0U_length 0 RJ0 := ⟨md_J0U_length, gw_of (List.mem_of_getElem? (i := 1185) (by decide +kernel)) (by decide +kernel), gw_of (List.mem_of_getElem? (i := 1048) (by decide +kernel)) (by decide +kernel), gw_of (List.mem_of_getElem? (i := 1049) (by decide +kernel)) (by decide +kernel), gw_of (List.mem_of_getElem? (i := 1050) (by decide +kernel)) (by decide +kernel)⟩
theorem gcl_L_305 : Cond.constantLong "InterlockingBoxLaw" 305 (1009) ∈ gw := gw_of (List.mem_of_getElem? (i := 1322) (by decide +kernel)) (by decide +kernel)
theorem gcl_L_307 : Cond.constantLong "InterlockingBoxLaw" 307 (101) ∈ gw := gw_of (List.mem_of_getElem? (i := 1323) (by decide +kernel)) (by decide +kernel)
theorem gcl_L_309 : Cond.constantLong "InterlockingBoxLaw" 309 (31) ∈ gw := gw_of (List.mem_of_getElem? (i := 1324) (by decide +kernel)) (by decide +kernel)
theorem gcl_L_317 : Cond.constantLong "InterlockingBoxLaw" 317 (7) ∈ gw := gw_of (List.mem_of_getElem? (i := 1363) (by decide +kernel)) (by decide +kernel)
theorem msh_L_315 : MSH "InterlockingBoxLaw" 315 mL_paths 3 := ⟨md_L_paths, gw_of (List.mem_of_getElem? (i := 1345) (by decide +kernel)) (by decide +kernel), gw_of (List.mem_of_getElem? (i := 1346) (by decide +kernel)) (by decide +kernel), gw_of (List.mem_of_getElem? (i := 1347) (by decide +kernel)) (by decide +kernel)⟩
theorem msh_L_313 : MSH "InterlockingBoxLaw" 313 mL_blockLength 2 := ⟨md_L_blockLength, gw_of (List.mem_of_getElem? (i := 1337) (by decide +kernel)) (by decide +kernel), gw_of (List.mem_of_getElem? (i := 1338) (by decide +kernel)) (by decide +kernel), gw_of (List.mem_of_getElem? (i := 1339) (by decide +kernel)) (by decide +kernel)⟩
theorem msh_L_311 : MSH "InterlockingBoxLaw" 311 mL_trainAt 2 := ⟨md_L_trainAt, gw_of (List.mem_of_getElem? (i := 1325) (by decide +kernel)) (by decide +kernel), gw_of (List.mem_of_getElem? (i := 1326) (by decide +kernel)) (by decide +kernel), gw_of (List.mem_of_getElem? (i := 1327) (by decide +kernel)) (by decide +kernel)⟩
theorem msh_L_321 : MSH "InterlockingBoxLaw" 321 mL_lockedBy 2 := ⟨md_L_lockedBy, gw_of (List.mem_of_getElem? (i := 1378) (by decide +kernel)) (by decide +kernel), gw_of (List.mem_of_getElem? (i := 1379) (by decide +kernel)) (by decide +kernel), gw_of (List.mem_of_getElem? (i := 1380) (by decide +kernel)) (by decide +kernel)⟩
theorem msh_L_319 : MSH "InterlockingBoxLaw" 319 mL_liesLeft 2 := ⟨md_L_liesLeft, gw_of (List.mem_of_getElem? (i := 1364) (by decide +kernel)) (by decide +kernel), gw_of (List.mem_of_getElem? (i := 1365) (by decide +kernel)) (by decide +kernel), gw_of (List.mem_of_getElem? (i := 1366) (by decide +kernel)) (by decide +kernel)⟩
theorem msh_L_243 : MSH "InterlockingBoxLaw" 243 mL_delay 2 := ⟨md_L_delay, gw_of (List.mem_of_getElem? (i := 643) (by decide +kernel)) (by decide +kernel), gw_of (List.mem_of_getElem? (i := 644) (by decide +kernel)) (by decide +kernel), gw_of (List.mem_of_getElem? (i := 645) (by decide +kernel)) (by decide +kernel)⟩
theorem msh_L_229 : MSH "InterlockingBoxLaw" 229 mL_destination 2 := ⟨md_L_destination, gw_of (List.mem_of_getElem? (i := 580) (by decide +kernel)) (by decide +kernel), gw_of (List.mem_of_getElem? (i := 581) (by decide +kernel)) (by decide +kernel), gw_of (List.mem_of_getElem? (i := 582) (by decide +kernel)) (by decide +kernel)⟩
theorem msh_L_227 : MSH "InterlockingBoxLaw" 227 mL_blockOf 2 := ⟨md_L_blockOf, gw_of (List.mem_of_getElem? (i := 568) (by decide +kernel)) (by decide +kernel), gw_of (List.mem_of_getElem? (i := 569) (by decide +kernel)) (by decide +kernel), gw_of (List.mem_of_getElem? (i := 570) (by decide +kernel)) (by decide +kernel)⟩
theorem msh_L_241 : MSH "InterlockingBoxLaw" 241 mL_queued 2 := ⟨md_L_queued, gw_of (List.mem_of_getElem? (i := 650) (by decide +kernel)) (by decide +kernel), gw_of (List.mem_of_getElem? (i := 651) (by decide +kernel)) (by decide +kernel), gw_of (List.mem_of_getElem? (i := 652) (by decide +kernel)) (by decide +kernel)⟩
theorem mv_L_217 : MV "InterlockingBoxLaw" 217 mX9_totalDelay 0 RX9 := ⟨md_X9_totalDelay, gw_of (List.mem_of_getElem? (i := 392) (by decide +kernel)) (by decide +kernel), gw_of (List.mem_of_getElem? (i := 393) (by decide +kernel)) (by decide +kernel), gw_of (List.mem_of_getElem? (i := 394) (by decide +kernel)) (by decide +kernel), gw_of (List.mem_of_getElem? (i := 395) (by decide +kernel)) (by decide +kernel)⟩
theorem mv_L_211 : MV "InterlockingBoxLaw" 211 mX9_arrived 0 RX9 := ⟨md_X9_arrived, gw_of (List.mem_of_getElem? (i := 388) (by decide +kernel)) (by decide +kernel), gw_of (List.mem_of_getElem? (i := 389) (by decide +kernel)) (by decide +kernel), gw_of (List.mem_of_getElem? (i := 390) (by decide +kernel)) (by decide +kernel), gw_of (List.mem_of_getElem? (i := 391) (by decide +kernel)) (by decide +kernel)⟩
theorem mv_L_214 : MV "InterlockingBoxLaw" 214 mX9_time 0 RX9 := ⟨md_X9_time, gw_of (List.mem_of_getElem? (i := 384) (by decide +kernel)) (by decide +kernel), gw_of (List.mem_of_getElem? (i := 385) (by decide +kernel)) (by decide +kernel), gw_of (List.mem_of_getElem? (i := 386) (by decide +kernel)) (by decide +kernel), gw_of (List.mem_of_getElem? (i := 387) (by decide +kernel)) (by decide +kernel)⟩
theorem mv_J5_40U : MV "java/lang/AbstractStringBuilder" 40 mJ0U_coder 0 RJ0 := ⟨md_J0U_coder, gw_of (List.mem_of_getElem? (i := 1064) (by decide +kernel)) (by decide +kernel), gw_of (List.mem_of_getElem? (i := 1052) (by decide +kernel)) (by decide +kernel), gw_of (List.mem_of_getElem? (i := 1053) (by decide +kernel)) (by decide +kernel), gw_of (List.mem_of_getElem? (i := 1054) (by decide +kernel)) (by decide +kernel)⟩
theorem gl_J0_212 : Cond.methodLink "java/lang/String" 212 arraycopyName ∈ gw := gw_of (List.mem_of_getElem? (i := 1088) (by decide +kernel)) (by decide +kernel)
theorem md_J0U_getBytes : MD mJ0U_getBytes 3 := ⟨gw_of (List.mem_of_getElem? (i := 41) (by decide +kernel)) (by decide +kernel), ⟨by decide +kernel, by decide +kernel⟩, by decide +kernel, by decide⟩
theorem mv_J5_399U : MV "java/lang/AbstractStringBuilder" 399 mJ0U_getBytes 3 RJ0 := ⟨md_J0U_getBytes, gw_of (List.mem_of_getElem? (i := 1084) (by decide +kernel)) (by decide +kernel), gw_of (List.mem_of_getElem? (i := 1085) (by decide +kernel)) (by decide +kernel), gw_of (List.mem_of_getElem? (i := 1086) (by decide +kernel)) (by decide +kernel), gw_of (List.mem_of_getElem? (i := 1087) (by decide +kernel)) (by decide +kernel)⟩
theorem md_J5_inflateIfNeededFor_a7421 : MD mJ5_inflateIfNeededFor_a7421 1 := ⟨gw_of (List.mem_of_getElem? (i := 39) (by decide +kernel)) (by decide +kernel), ⟨by decide +kernel, by decide +kernel⟩, by decide +kernel, by decide⟩
theorem mv_J5_397_J4 : MV "java/lang/AbstractStringBuilder" 397 mJ5_inflateIfNeededFor_a7421 1 RJ4 := ⟨md_J5_inflateIfNeededFor_a7421, gw_of (List.mem_of_getElem? (i := 1060) (by decide +kernel)) (by decide +kernel), gw_of (List.mem_of_getElem? (i := 1062) (by decide +kernel)) (by decide +kernel), gw_ofx (List.mem_of_getElem? (i := 3) rfl) (by decide +kernel), gw_of (List.mem_of_getElem? (i := 1063) (by decide +kernel)) (by decide +kernel)⟩
theorem md_J5_putStringAt_47b60 : MD mJ5_putStringAt_47b60 2 := ⟨gw_of (List.mem_of_getElem? (i := 39) (by decide +kernel)) (by decide +kernel), ⟨by decide +kernel, by decide +kernel⟩, by decide +kernel, by decide⟩
theorem mv_J5_208_J4 : MV "java/lang/AbstractStringBuilder" 208 mJ5_putStringAt_47b60 2 RJ4 := ⟨md_J5_putStringAt_47b60, gw_of (List.mem_of_getElem? (i := 1056) (by decide +kernel)) (by decide +kernel), gw_of (List.mem_of_getElem? (i := 1058) (by decide +kernel)) (by decide +kernel), gw_ofx (List.mem_of_getElem? (i := 2) rfl) (by decide +kernel), gw_of (List.mem_of_getElem? (i := 1059) (by decide +kernel)) (by decide +kernel)⟩
theorem mv_J5_32U : MV "java/lang/AbstractStringBuilder" 32 mJ0U_length 0 RJ0 := ⟨md_J0U_length, gw_of (List.mem_of_getElem? (i := 1047) (by decide +kernel)) (by decide +kernel), gw_of (List.mem_of_getElem? (i := 1048) (by decide +kernel)) (by decide +kernel), gw_of (List.mem_of_getElem? (i := 1049) (by decide +kernel)) (by decide +kernel), gw_of (List.mem_of_getElem? (i := 1050) (by decide +kernel)) (by decide +kernel)⟩
theorem md_J5_append_cf1ce : MD mJ5_append_cf1ce 1 := ⟨gw_of (List.mem_of_getElem? (i := 39) (by decide +kernel)) (by decide +kernel), ⟨by decide +kernel, by decide +kernel⟩, by decide +kernel, by decide⟩
theorem mp_J4_29 : MP "java/lang/StringBuilder" 29 mJ5_append_cf1ce 1 := ⟨md_J5_append_cf1ce, gw_of (List.mem_of_getElem? (i := 978) (by decide +kernel)) (by decide +kernel), gw_of (List.mem_of_getElem? (i := 1721) (by decide +kernel)) (by decide +kernel), gw_of (List.mem_of_getElem? (i := 329) (by decide +kernel)) (by decide +kernel), gw_of (List.mem_of_getElem? (i := 979) (by decide +kernel)) (by decide +kernel), gw_of (List.mem_of_getElem? (i := 980) (by decide +kernel)) (by decide +kernel), by decide +kernel⟩
theorem md_J7_checkLength_df160 : MD mJ7_checkLength_df160 2 := ⟨gw_of (List.mem_of_getElem? (i := 50) (by decide +kernel)) (by decide +kernel), ⟨by decide +kernel, by decide +kernel⟩, by decide +kernel, by decide⟩
theorem ms_J7_343 : MS "java/util/Arrays" 343 mJ7_checkLength_df160 2 := ⟨md_J7_checkLength_df160, gw_of (List.mem_of_getElem? (i := 1148) (by decide +kernel)) (by decide +kernel), gw_of (List.mem_of_getElem? (i := 1149) (by decide +kernel)) (by decide +kernel), gw_of (List.mem_of_getElem? (i := 1150) (by decide +kernel)) (by decide +kernel)⟩
theorem md_J7_copyOfRangeByte_39247 : MD mJ7_copyOfRangeByte_39247 3 := ⟨gw_of (List.mem_of_getElem? (i := 50) (by decide +kernel)) (by decide +kernel), ⟨by decide +kernel, by decide +kernel⟩, by decide +kernel, by decide⟩
theorem ms_J7_339 : MS "java/util/Arrays" 339 mJ7_copyOfRangeByte_39247 3 := ⟨md_J7_copyOfRangeByte_39247, gw_of (List.mem_of_getElem? (i := 1145) (by decide +kernel)) (by decide +kernel), gw_of (List.mem_of_getElem? (i := 1146) (by decide +kernel)) (by decide +kernel), gw_of (List.mem_of_getElem? (i := 1147) (by decide +kernel)) (by decide +kernel)⟩
theorem gl_J0_1 : Cond.methodLink "java/lang/String" 1 Lib.objectInit ∈ gw := gw_of (List.mem_of_getElem? (i := 1127) (by decide +kernel)) (by decide +kernel)
theorem fp_J0_15 : FP "java/lang/String" 15 7 1 0 (.byte) true := ⟨RJ0, TJ0, 4, tyJ0, rfl, us_J0, by decide, rfl, by decide, Or.inl (gw_of (List.mem_of_getElem? (i := 1173) (by decide +kernel)) (by decide +kernel)), tyJ0_ok, nmJ0, rfl, rfl, fun _ => rfl⟩
theorem fp_J0_9 : FP "java/lang/String" 9 7 0 1 (.array .byte) true := ⟨RJ0, TJ0, 4, tyJ0, rfl, us_J0, by decide, rfl, by decide, Or.inl (gw_of (List.mem_of_getElem? (i := 1172) (by decide +kernel)) (by decide +kernel)), tyJ0_ok, nmJ0, rfl, rfl, fun _ => rfl⟩
theorem md_J7_copyOfRange_39247 : MD mJ7_copyOfRange_39247 3 := ⟨gw_of (List.mem_of_getElem? (i := 50) (by decide +kernel)) (by decide +kernel), ⟨by decide +kernel, by decide +kernel⟩, by decide +kernel, by decide⟩
theorem ms_J0_54 : MS "java/lang/String" 54 mJ7_copyOfRange_39247 3 := ⟨md_J7_copyOfRange_39247, gw_of (List.mem_of_getElem? (i := 1142) (by decide +kernel)) (by decide +kernel), gw_of (List.mem_of_getElem? (i := 1143) (by decide +kernel)) (by decide +kernel), gw_of (List.mem_of_getElem? (i := 1144) (by decide +kernel)) (by decide +kernel)⟩
theorem fl_J0_1048 : FL "java/lang/String" 1048 8 2 0 := ⟨RJ4, TJ4, 4, rfl, us_J4, by decide, rfl, by decide, Or.inl (gw_of (List.mem_of_getElem? (i := 319) (by decide +kernel)) (by decide +kernel))⟩
theorem mv_J0_1047_J4 : MV "java/lang/String" 1047 mJ5_isLatin1_aae02 0 RJ4 := ⟨md_J5_isLatin1_aae02, gw_of (List.mem_of_getElem? (i := 1141) (by decide +kernel)) (by decide +kernel), gw_of (List.mem_of_getElem? (i := 1017) (by decide +kernel)) (by decide +kernel), gw_of (List.mem_of_getElem? (i := 1019) (by decide +kernel)) (by decide +kernel), gw_of (List.mem_of_getElem? (i := 1020) (by decide +kernel)) (by decide +kernel)⟩
theorem md_J5_getValue_6d5f1 : MD mJ5_getValue_6d5f1 0 := ⟨gw_of (List.mem_of_getElem? (i := 39) (by decide +kernel)) (by decide +kernel), ⟨by decide +kernel, by decide +kernel⟩, by decide +kernel, by decide⟩
theorem mv_J0_552_J4 : MV "java/lang/String" 552 mJ5_getValue_6d5f1 0 RJ4 := ⟨md_J5_getValue_6d5f1, gw_of (List.mem_of_getElem? (i := 1128) (by decide +kernel)) (by decide +kernel), gw_of (List.mem_of_getElem? (i := 1129) (by decide +kernel)) (by decide +kernel), gw_of (List.mem_of_getElem? (i := 1131) (by decide +kernel)) (by decide +kernel), gw_of (List.mem_of_getElem? (i := 1132) (by decide +kernel)) (by decide +kernel)⟩
theorem md_J0_init_db425 : MD mJ0_init_db425 2 := ⟨gw_of (List.mem_of_getElem? (i := 41) (by decide +kernel)) (by decide +kernel), ⟨by decide +kernel, by decide +kernel⟩, by decide +kernel, by decide⟩
theorem mi_J0_489 : MI "java/lang/String" 489 mJ0_init_db425 2 := ⟨md_J0_init_db425, rfl, gw_of (List.mem_of_getElem? (i := 1125) (by decide +kernel)) (by decide +kernel), gw_of (List.mem_of_getElem? (i := 1126) (by decide +kernel)) (by decide +kernel), Or.inl (gw_of (List.mem_of_getElem? (i := 1124) (by decide +kernel)) (by decide +kernel)), rfl⟩
theorem nw_J4_18 : NW "java/lang/StringBuilder" 18 7 4 := ⟨RJ0, TJ0, tyJ0, rfl, us_J0, tyJ0_ok, by decide +kernel, rfl, gw_of (List.mem_of_getElem? (i := 1120) (by decide +kernel)) (by decide +kernel), gw_of (List.mem_of_getElem? (i := 481) (by decide +kernel)) (by decide +kernel), gw_of (List.mem_of_getElem? (i := 41) (by decide +kernel)) (by decide +kernel), by decide⟩
theorem md_J0_init_81219 : MD mJ0_init_81219 1 := ⟨gw_of (List.mem_of_getElem? (i := 41) (by decide +kernel)) (by decide +kernel), ⟨by decide +kernel, by decide +kernel⟩, by decide +kernel, by decide⟩
theorem mi_J4_137 : MI "java/lang/StringBuilder" 137 mJ0_init_81219 1 := ⟨md_J0_init_81219, rfl, gw_of (List.mem_of_getElem? (i := 1122) (by decide +kernel)) (by decide +kernel), gw_of (List.mem_of_getElem? (i := 1123) (by decide +kernel)) (by decide +kernel), Or.inl (gw_of (List.mem_of_getElem? (i := 1121) (by decide +kernel)) (by decide +kernel)), rfl⟩
theorem gc_L_255 : Cond.constant "InterlockingBoxLaw" 255 (nI 100000) ∈ gw := gw_of (List.mem_of_getElem? (i := 687) (by decide +kernel)) (by decide +kernel)
theorem msh_L_256 : MSH "InterlockingBoxLaw" 256 mL_addBlock 2 := ⟨md_L_addBlock, gw_of (List.mem_of_getElem? (i := 688) (by decide +kernel)) (by decide +kernel), gw_of (List.mem_of_getElem? (i := 689) (by decide +kernel)) (by decide +kernel), gw_of (List.mem_of_getElem? (i := 690) (by decide +kernel)) (by decide +kernel)⟩
theorem msh_L_258 : MSH "InterlockingBoxLaw" 258 mL_addPoint 4 := ⟨md_L_addPoint, gw_of (List.mem_of_getElem? (i := 804) (by decide +kernel)) (by decide +kernel), gw_of (List.mem_of_getElem? (i := 805) (by decide +kernel)) (by decide +kernel), gw_of (List.mem_of_getElem? (i := 806) (by decide +kernel)) (by decide +kernel)⟩
theorem msh_L_261 : MSH "InterlockingBoxLaw" 261 mL_addLink 3 := ⟨md_L_addLink, gw_of (List.mem_of_getElem? (i := 819) (by decide +kernel)) (by decide +kernel), gw_of (List.mem_of_getElem? (i := 820) (by decide +kernel)) (by decide +kernel), gw_of (List.mem_of_getElem? (i := 821) (by decide +kernel)) (by decide +kernel)⟩
theorem msh_L_265 : MSH "InterlockingBoxLaw" 265 mL_open 2 := ⟨md_L_open, gw_of (List.mem_of_getElem? (i := 848) (by decide +kernel)) (by decide +kernel), gw_of (List.mem_of_getElem? (i := 849) (by decide +kernel)) (by decide +kernel), gw_of (List.mem_of_getElem? (i := 850) (by decide +kernel)) (by decide +kernel)⟩
theorem msh_L_267 : MSH "InterlockingBoxLaw" 267 mL_throwPoint 2 := ⟨md_L_throwPoint, gw_of (List.mem_of_getElem? (i := 859) (by decide +kernel)) (by decide +kernel), gw_of (List.mem_of_getElem? (i := 860) (by decide +kernel)) (by decide +kernel), gw_of (List.mem_of_getElem? (i := 861) (by decide +kernel)) (by decide +kernel)⟩
theorem msh_L_269 : MSH "InterlockingBoxLaw" 269 mL_addTrain 3 := ⟨md_L_addTrain, gw_of (List.mem_of_getElem? (i := 899) (by decide +kernel)) (by decide +kernel), gw_of (List.mem_of_getElem? (i := 900) (by decide +kernel)) (by decide +kernel), gw_of (List.mem_of_getElem? (i := 901) (by decide +kernel)) (by decide +kernel)⟩
theorem msh_L_271 : MSH "InterlockingBoxLaw" 271 mL_setRoute 2 := ⟨md_L_setRoute, gw_of (List.mem_of_getElem? (i := 918) (by decide +kernel)) (by decide +kernel), gw_of (List.mem_of_getElem? (i := 919) (by decide +kernel)) (by decide +kernel), gw_of (List.mem_of_getElem? (i := 920) (by decide +kernel)) (by decide +kernel)⟩
theorem msh_L_273 : MSH "InterlockingBoxLaw" 273 mL_releaseRoute 2 := ⟨md_L_releaseRoute, gw_of (List.mem_of_getElem? (i := 960) (by decide +kernel)) (by decide +kernel), gw_of (List.mem_of_getElem? (i := 961) (by decide +kernel)) (by decide +kernel), gw_of (List.mem_of_getElem? (i := 962) (by decide +kernel)) (by decide +kernel)⟩
theorem nw_L_275 : NW "InterlockingBoxLaw" 275 8 4 := ⟨RJ4, TJ4, tyJ4, rfl, us_J4, tyJ4_ok, by decide +kernel, rfl, gw_of (List.mem_of_getElem? (i := 971) (by decide +kernel)) (by decide +kernel), gw_of (List.mem_of_getElem? (i := 299) (by decide +kernel)) (by decide +kernel), gw_of (List.mem_of_getElem? (i := 40) (by decide +kernel)) (by decide +kernel), by decide⟩
theorem md_L_runs : MD mL_runs 2 := ⟨gw_of (List.mem_of_getElem? (i := 29) (by decide +kernel)) (by decide +kernel), ⟨by decide +kernel, by decide +kernel⟩, by decide +kernel, by decide⟩
theorem ms_L_299 : MS "InterlockingBoxLaw" 299 mL_runs 2 := ⟨md_L_runs, gw_of (List.mem_of_getElem? (i := 1182) (by decide +kernel)) (by decide +kernel), gw_of (List.mem_of_getElem? (i := 1183) (by decide +kernel)) (by decide +kernel), gw_of (List.mem_of_getElem? (i := 1184) (by decide +kernel)) (by decide +kernel)⟩
theorem md_J4_toString_0e30d : MD mJ4_toString_0e30d 0 := ⟨gw_of (List.mem_of_getElem? (i := 40) (by decide +kernel)) (by decide +kernel), ⟨by decide +kernel, by decide +kernel⟩, by decide +kernel, by decide⟩
theorem mv_L_289 : MV "InterlockingBoxLaw" 289 mJ4_toString_0e30d 0 RJ4 := ⟨md_J4_toString_0e30d, gw_of (List.mem_of_getElem? (i := 1116) (by decide +kernel)) (by decide +kernel), gw_of (List.mem_of_getElem? (i := 1117) (by decide +kernel)) (by decide +kernel), gw_of (List.mem_of_getElem? (i := 1118) (by decide +kernel)) (by decide +kernel), gw_of (List.mem_of_getElem? (i := 1119) (by decide +kernel)) (by decide +kernel)⟩
theorem md_J4_append_15ec4 : MD mJ4_append_15ec4 1 := ⟨gw_of (List.mem_of_getElem? (i := 40) (by decide +kernel)) (by decide +kernel), ⟨by decide +kernel, by decide +kernel⟩, by decide +kernel, by decide⟩
theorem mi_L_277 : MI "InterlockingBoxLaw" 277 mJ4_init_da8c8 0 := ⟨md_J4_init_da8c8, rfl, gw_of (List.mem_of_getElem? (i := 301) (by decide +kernel)) (by decide +kernel), gw_of (List.mem_of_getElem? (i := 302) (by decide +kernel)) (by decide +kernel), Or.inl (gw_of (List.mem_of_getElem? (i := 972) (by decide +kernel)) (by decide +kernel)), rfl⟩
theorem msh_L_303 : MSH "InterlockingBoxLaw" 303 mL_pass 2 := ⟨md_L_pass, gw_of (List.mem_of_getElem? (i := 1312) (by decide +kernel)) (by decide +kernel), gw_of (List.mem_of_getElem? (i := 1313) (by decide +kernel)) (by decide +kernel), gw_of (List.mem_of_getElem? (i := 1314) (by decide +kernel)) (by decide +kernel)⟩
theorem md_L_pick : MD mL_pick 3 := ⟨gw_of (List.mem_of_getElem? (i := 29) (by decide +kernel)) (by decide +kernel), ⟨by decide +kernel, by decide +kernel⟩, by decide +kernel, by decide⟩
theorem ms_L_192 : MS "InterlockingBoxLaw" 192 mL_pick 3 := ⟨md_L_pick, gw_of (List.mem_of_getElem? (i := 396) (by decide +kernel)) (by decide +kernel), gw_of (List.mem_of_getElem? (i := 397) (by decide +kernel)) (by decide +kernel), gw_of (List.mem_of_getElem? (i := 398) (by decide +kernel)) (by decide +kernel)⟩
theorem msh_L_329 : MSH "InterlockingBoxLaw" 329 mL_conflict 3 := ⟨md_L_conflict, gw_of (List.mem_of_getElem? (i := 1408) (by decide +kernel)) (by decide +kernel), gw_of (List.mem_of_getElem? (i := 1409) (by decide +kernel)) (by decide +kernel), gw_of (List.mem_of_getElem? (i := 1410) (by decide +kernel)) (by decide +kernel)⟩
theorem msh_L_203 : MSH "InterlockingBoxLaw" 203 mL_hasRoute 2 := ⟨md_L_hasRoute, gw_of (List.mem_of_getElem? (i := 587) (by decide +kernel)) (by decide +kernel), gw_of (List.mem_of_getElem? (i := 588) (by decide +kernel)) (by decide +kernel), gw_of (List.mem_of_getElem? (i := 589) (by decide +kernel)) (by decide +kernel)⟩
theorem msh_L_333 : MSH "InterlockingBoxLaw" 333 mL_writeTrain 2 := ⟨md_L_writeTrain, gw_of (List.mem_of_getElem? (i := 1429) (by decide +kernel)) (by decide +kernel), gw_of (List.mem_of_getElem? (i := 1430) (by decide +kernel)) (by decide +kernel), gw_of (List.mem_of_getElem? (i := 1431) (by decide +kernel)) (by decide +kernel)⟩
theorem msh_L_209 : MSH "InterlockingBoxLaw" 209 mL_minutesUntilNext 2 := ⟨md_L_minutesUntilNext, gw_of (List.mem_of_getElem? (i := 611) (by decide +kernel)) (by decide +kernel), gw_of (List.mem_of_getElem? (i := 612) (by decide +kernel)) (by decide +kernel), gw_of (List.mem_of_getElem? (i := 613) (by decide +kernel)) (by decide +kernel)⟩
theorem msh_L_331 : MSH "InterlockingBoxLaw" 331 mL_minutesUntilArrivalByPassing 2 := ⟨md_L_minutesUntilArrivalByPassing, gw_of (List.mem_of_getElem? (i := 1420) (by decide +kernel)) (by decide +kernel), gw_of (List.mem_of_getElem? (i := 1421) (by decide +kernel)) (by decide +kernel), gw_of (List.mem_of_getElem? (i := 1422) (by decide +kernel)) (by decide +kernel)⟩
theorem msh_L_205 : MSH "InterlockingBoxLaw" 205 mL_isClear 2 := ⟨md_L_isClear, gw_of (List.mem_of_getElem? (i := 598) (by decide +kernel)) (by decide +kernel), gw_of (List.mem_of_getElem? (i := 599) (by decide +kernel)) (by decide +kernel), gw_of (List.mem_of_getElem? (i := 600) (by decide +kernel)) (by decide +kernel)⟩
theorem msh_L_231 : MSH "InterlockingBoxLaw" 231 mL_routeLength 3 := ⟨md_L_routeLength, gw_of (List.mem_of_getElem? (i := 530) (by decide +kernel)) (by decide +kernel), gw_of (List.mem_of_getElem? (i := 531) (by decide +kernel)) (by decide +kernel), gw_of (List.mem_of_getElem? (i := 532) (by decide +kernel)) (by decide +kernel)⟩
theorem msh_L_323 : MSH "InterlockingBoxLaw" 323 mL_routeLengthByPaths 3 := ⟨md_L_routeLengthByPaths, gw_of (List.mem_of_getElem? (i := 1511) (by decide +kernel)) (by decide +kernel), gw_of (List.mem_of_getElem? (i := 1512) (by decide +kernel)) (by decide +kernel), gw_of (List.mem_of_getElem? (i := 1513) (by decide +kernel)) (by decide +kernel)⟩
theorem msh_L_325 : MSH "InterlockingBoxLaw" 325 mL_routeBlock 4 := ⟨md_L_routeBlock, gw_of (List.mem_of_getElem? (i := 1527) (by decide +kernel)) (by decide +kernel), gw_of (List.mem_of_getElem? (i := 1528) (by decide +kernel)) (by decide +kernel), gw_of (List.mem_of_getElem? (i := 1529) (by decide +kernel)) (by decide +kernel)⟩
theorem md_L_isTrain : MD mL_isTrain 3 := ⟨gw_of (List.mem_of_getElem? (i := 29) (by decide +kernel)) (by decide +kernel), ⟨by decide +kernel, by decide +kernel⟩, by decide +kernel, by decide⟩
theorem ms_L_335 : MS "InterlockingBoxLaw" 335 mL_isTrain 3 := ⟨md_L_isTrain, gw_of (List.mem_of_getElem? (i := 1390) (by decide +kernel)) (by decide +kernel), gw_of (List.mem_of_getElem? (i := 1391) (by decide +kernel)) (by decide +kernel), gw_of (List.mem_of_getElem? (i := 1392) (by decide +kernel)) (by decide +kernel)⟩
theorem md_L_waiting : MD mL_waiting 1 := ⟨gw_of (List.mem_of_getElem? (i := 29) (by decide +kernel)) (by decide +kernel), ⟨by decide +kernel, by decide +kernel⟩, by decide +kernel, by decide⟩
theorem ms_L_221 : MS "InterlockingBoxLaw" 221 mL_waiting 1 := ⟨md_L_waiting, gw_of (List.mem_of_getElem? (i := 681) (by decide +kernel)) (by decide +kernel), gw_of (List.mem_of_getElem? (i := 682) (by decide +kernel)) (by decide +kernel), gw_of (List.mem_of_getElem? (i := 683) (by decide +kernel)) (by decide +kernel)⟩
theorem msh_L_361 : MSH "InterlockingBoxLaw" 361 mL_usedShare 1 := ⟨md_L_usedShare, gw_of (List.mem_of_getElem? (i := 1675) (by decide +kernel)) (by decide +kernel), gw_of (List.mem_of_getElem? (i := 1676) (by decide +kernel)) (by decide +kernel), gw_of (List.mem_of_getElem? (i := 1677) (by decide +kernel)) (by decide +kernel)⟩
theorem msh_L_358 : MSH "InterlockingBoxLaw" 358 mL_meanDelay 1 := ⟨md_L_meanDelay, gw_of (List.mem_of_getElem? (i := 1650) (by decide +kernel)) (by decide +kernel), gw_of (List.mem_of_getElem? (i := 1651) (by decide +kernel)) (by decide +kernel), gw_of (List.mem_of_getElem? (i := 1652) (by decide +kernel)) (by decide +kernel)⟩
theorem mv_L_354 : MV "InterlockingBoxLaw" 354 mX9_isConsistent 0 RX9 := ⟨md_X9_isConsistent, gw_of (List.mem_of_getElem? (i := 1613) (by decide +kernel)) (by decide +kernel), gw_of (List.mem_of_getElem? (i := 1614) (by decide +kernel)) (by decide +kernel), gw_of (List.mem_of_getElem? (i := 1615) (by decide +kernel)) (by decide +kernel), gw_of (List.mem_of_getElem? (i := 1616) (by decide +kernel)) (by decide +kernel)⟩
theorem mv_L_351 : MV "InterlockingBoxLaw" 351 mX9_mostWithoutConflictBySets 0 RX9 := ⟨md_X9_mostWithoutConflictBySets, gw_of (List.mem_of_getElem? (i := 1600) (by decide +kernel)) (by decide +kernel), gw_of (List.mem_of_getElem? (i := 1601) (by decide +kernel)) (by decide +kernel), gw_of (List.mem_of_getElem? (i := 1602) (by decide +kernel)) (by decide +kernel), gw_of (List.mem_of_getElem? (i := 1603) (by decide +kernel)) (by decide +kernel)⟩
theorem mv_L_348 : MV "InterlockingBoxLaw" 348 mX9_deadlockedByPairs 0 RX9 := ⟨md_X9_deadlockedByPairs, gw_of (List.mem_of_getElem? (i := 1592) (by decide +kernel)) (by decide +kernel), gw_of (List.mem_of_getElem? (i := 1593) (by decide +kernel)) (by decide +kernel), gw_of (List.mem_of_getElem? (i := 1594) (by decide +kernel)) (by decide +kernel), gw_of (List.mem_of_getElem? (i := 1595) (by decide +kernel)) (by decide +kernel)⟩
theorem md_L_isRoute : MD mL_isRoute 3 := ⟨gw_of (List.mem_of_getElem? (i := 29) (by decide +kernel)) (by decide +kernel), ⟨by decide +kernel, by decide +kernel⟩, by decide +kernel, by decide⟩
theorem ms_L_339 : MS "InterlockingBoxLaw" 339 mL_isRoute 3 := ⟨md_L_isRoute, gw_of (List.mem_of_getElem? (i := 1508) (by decide +kernel)) (by decide +kernel), gw_of (List.mem_of_getElem? (i := 1509) (by decide +kernel)) (by decide +kernel), gw_of (List.mem_of_getElem? (i := 1510) (by decide +kernel)) (by decide +kernel)⟩
theorem gl_L_367 : Cond.methodLink "InterlockingBoxLaw" 367 Lib.Math.min.name ∈ gw := gw_of (List.mem_of_getElem? (i := 1693) (by decide +kernel)) (by decide +kernel)
theorem msh_L_372 : MSH "InterlockingBoxLaw" 372 mL_undo 1 := ⟨md_L_undo, gw_of (List.mem_of_getElem? (i := 1694) (by decide +kernel)) (by decide +kernel), gw_of (List.mem_of_getElem? (i := 1695) (by decide +kernel)) (by decide +kernel), gw_of (List.mem_of_getElem? (i := 1696) (by decide +kernel)) (by decide +kernel)⟩
theorem md_L_sum : MD mL_sum 1 := ⟨gw_of (List.mem_of_getElem? (i := 29) (by decide +kernel)) (by decide +kernel), ⟨by decide +kernel, by decide +kernel⟩, by decide +kernel, by decide⟩
theorem ms_L_188 : MS "InterlockingBoxLaw" 188 mL_sum 1 := ⟨md_L_sum, gw_of (List.mem_of_getElem? (i := 1319) (by decide +kernel)) (by decide +kernel), gw_of (List.mem_of_getElem? (i := 1320) (by decide +kernel)) (by decide +kernel), gw_of (List.mem_of_getElem? (i := 1321) (by decide +kernel)) (by decide +kernel)⟩
theorem msh_L_374 : MSH "InterlockingBoxLaw" 374 mL_restore 1 := ⟨md_L_restore, gw_of (List.mem_of_getElem? (i := 1707) (by decide +kernel)) (by decide +kernel), gw_of (List.mem_of_getElem? (i := 1708) (by decide +kernel)) (by decide +kernel), gw_of (List.mem_of_getElem? (i := 1709) (by decide +kernel)) (by decide +kernel)⟩
theorem mv_L_364 : MV "InterlockingBoxLaw" 364 mX9_save 0 RX9 := ⟨md_X9_save, gw_of (List.mem_of_getElem? (i := 1689) (by decide +kernel)) (by decide +kernel), gw_of (List.mem_of_getElem? (i := 1690) (by decide +kernel)) (by decide +kernel), gw_of (List.mem_of_getElem? (i := 1691) (by decide +kernel)) (by decide +kernel), gw_of (List.mem_of_getElem? (i := 1692) (by decide +kernel)) (by decide +kernel)⟩
theorem nw_L_15 : NW "InterlockingBoxLaw" 15 0 12 := ⟨RX9, TX9, tyX9, rfl, us_X9, tyX9_ok, by decide +kernel, rfl, gw_of (List.mem_of_getElem? (i := 64) (by decide +kernel)) (by decide +kernel), gw_of (List.mem_of_getElem? (i := 65) (by decide +kernel)) (by decide +kernel), gw_of (List.mem_of_getElem? (i := 30) (by decide +kernel)) (by decide +kernel), by decide⟩
theorem md_L_isKept : MD mL_isKept 3 := ⟨gw_of (List.mem_of_getElem? (i := 29) (by decide +kernel)) (by decide +kernel), ⟨by decide +kernel, by decide +kernel⟩, by decide +kernel, by decide⟩
theorem ms_L_251 : MS "InterlockingBoxLaw" 251 mL_isKept 3 := ⟨md_L_isKept, gw_of (List.mem_of_getElem? (i := 1686) (by decide +kernel)) (by decide +kernel), gw_of (List.mem_of_getElem? (i := 1687) (by decide +kernel)) (by decide +kernel), gw_of (List.mem_of_getElem? (i := 1688) (by decide +kernel)) (by decide +kernel)⟩
theorem md_L_isWhole : MD mL_isWhole 5 := ⟨gw_of (List.mem_of_getElem? (i := 29) (by decide +kernel)) (by decide +kernel), ⟨by decide +kernel, by decide +kernel⟩, by decide +kernel, by decide⟩
theorem ms_L_247 : MS "InterlockingBoxLaw" 247 mL_isWhole 5 := ⟨md_L_isWhole, gw_of (List.mem_of_getElem? (i := 1387) (by decide +kernel)) (by decide +kernel), gw_of (List.mem_of_getElem? (i := 1388) (by decide +kernel)) (by decide +kernel), gw_of (List.mem_of_getElem? (i := 1389) (by decide +kernel)) (by decide +kernel)⟩
theorem msh_L_180 : MSH "InterlockingBoxLaw" 180 mL_refusalReason 1 := ⟨md_L_refusalReason, gw_of (List.mem_of_getElem? (i := 662) (by decide +kernel)) (by decide +kernel), gw_of (List.mem_of_getElem? (i := 663) (by decide +kernel)) (by decide +kernel), gw_of (List.mem_of_getElem? (i := 664) (by decide +kernel)) (by decide +kernel)⟩
theorem md_L_does : MD mL_does 6 := ⟨gw_of (List.mem_of_getElem? (i := 29) (by decide +kernel)) (by decide +kernel), ⟨by decide +kernel, by decide +kernel⟩, by decide +kernel, by decide⟩
theorem ms_L_234 : MS "InterlockingBoxLaw" 234 mL_does 6 := ⟨md_L_does, gw_of (List.mem_of_getElem? (i := 684) (by decide +kernel)) (by decide +kernel), gw_of (List.mem_of_getElem? (i := 685) (by decide +kernel)) (by decide +kernel), gw_of (List.mem_of_getElem? (i := 686) (by decide +kernel)) (by decide +kernel)⟩
theorem md_L_trainOf : MD mL_trainOf 4 := ⟨gw_of (List.mem_of_getElem? (i := 29) (by decide +kernel)) (by decide +kernel), ⟨by decide +kernel, by decide +kernel⟩, by decide +kernel, by decide⟩
theorem ms_L_199 : MS "InterlockingBoxLaw" 199 mL_trainOf 4 := ⟨md_L_trainOf, gw_of (List.mem_of_getElem? (i := 678) (by decide +kernel)) (by decide +kernel), gw_of (List.mem_of_getElem? (i := 679) (by decide +kernel)) (by decide +kernel), gw_of (List.mem_of_getElem? (i := 680) (by decide +kernel)) (by decide +kernel)⟩
theorem mi_L_187 : MI "InterlockingBoxLaw" 187 mX9_init 0 := ⟨md_X9_init, rfl, gw_of (List.mem_of_getElem? (i := 67) (by decide +kernel)) (by decide +kernel), gw_of (List.mem_of_getElem? (i := 68) (by decide +kernel)) (by decide +kernel), Or.inl (gw_of (List.mem_of_getElem? (i := 66) (by decide +kernel)) (by decide +kernel)), rfl⟩
theorem mo_J0_549 : MO "java/lang/String" 549 mJ5_length_8abf5 mJ4_length_8abf5 0 RJ4 := ⟨md_J4_length_8abf5, md_J5_length_8abf5, gw_of (List.mem_of_getElem? (i := 1133) (by decide +kernel)) (by decide +kernel), gw_of (List.mem_of_getElem? (i := 1135) (by decide +kernel)) (by decide +kernel), gw_of (List.mem_of_getElem? (i := 1134) (by decide +kernel)) (by decide +kernel), gw_of (List.mem_of_getElem? (i := 1140) (by decide +kernel)) (by decide +kernel), gw_of (List.mem_of_getElem? (i := 1136) (by decide +kernel)) (by decide +kernel), gw_of (List.mem_of_getElem? (i := 1137) (by decide +kernel)) (by decide +kernel), gw_of (List.mem_of_getElem? (i := 1138) (by decide +kernel)) (by decide +kernel)⟩
end
section
def wX4_init (a0 : Nat) (h : AH) (K : AH → Prop) : Prop :=
  (¬ a0 = 0) ∧ (isO h a0 2) ∧ ∀ h3, h3 = uI h a0 0 (nI 0) → ∀ h4, h4 = uI h3 a0 1 (nI 0) → ∀ h5, h5 = uI h4 a0 2 (nI 0) → ∀ h6, h6 = uI h5 a0 3 (nI 0) → ∀ h7, h7 = uI h6 a0 4 (nI 0) → ∀ h8, h8 = nw h7 100 12 → (isO h8 a0 2) ∧ ∀ h10, h10 = uR h8 a0 5 (mN h7) → ∀ h11, h11 = nw h10 100 12 → (isO h11 a0 2) ∧ ∀ h13, h13 = uR h11 a0 6 (mN h10) → ∀ h14, h14 = nw h13 100 12 → (isO h14 a0 2) ∧ ∀ h16, h16 = uR h14 a0 7 (mN h13) → ∀ h17, h17 = nw h16 100 8 → (isO h17 a0 2) ∧ ∀ h19, h19 = uR h17 a0 8 (mN h16) → ∀ h20, h20 = nwM h19 12 12 → (isO h20 a0 2) ∧ ∀ h22, h22 = uR h20 a0 9 (mN h19) → ∀ h23, h23 = nwM h22 12 12 → (isO h23 a0 2) ∧ ∀ h25, h25 = uR h23 a0 10 (mN h22) → ∀ h26, h26 = nw h25 100 12 → (isO h26 a0 2) ∧ ∀ h28, h28 = uR h26 a0 11 (mN h25) → K h28
def wX8_init (a0 : Nat) (h : AH) (K : AH → Prop) : Prop :=
  (¬ a0 = 0) ∧ (isO h a0 6) ∧ ∀ h3, h3 = uI h a0 0 (nI 0) → ∀ h4, h4 = uI h3 a0 1 (nI 0) → ∀ h5, h5 = uI h4 a0 2 (nI 0) → ∀ h6, h6 = uI h5 a0 3 (nI 0) → ∀ h7, h7 = uI h6 a0 4 (nI 0) → ∀ h8, h8 = uI h7 a0 5 (nI 0) → K h8
def wX7_init_L64 (K : AH → Prop)   : Nat → Nat → Int32 → AH → Prop
  | 0 => fun _ _ _ => False
  | n + 1 => fun x0 x1 h =>
  (((nI 8) ≤ x1 → K h) ∧ (¬ (nI 8) ≤ x1 → (isO h x0 5) ∧ ∀ h21, h21 = nw h 7 0 → (¬ mN h = 0) ∧ wX8_init (mN h) h21 (fun h22 => (isA h22 (mR h x0 1) 6) ∧ (isO h22 (mN h) 6) ∧ (nZ ≤ (mR h x0 1)) ∧ (vp_in x1 (ln h22 (mR h x0 1))) ∧ ∀ h28, h28 = uR h22 (mR h x0 1) x1.toNatClampNeg (mN h) → wX7_init_L64 K   n x0 (x1 + (nI 1)) h28)))
def wX7_init (a0 : Nat) (h : AH) (K : AH → Prop) : Prop :=
  (¬ a0 = 0) ∧ ∀ h2, h2 = nw h 3 0 → (¬ mN h = 0) ∧ wX4_init (mN h) h2 (fun h3 => (isO h3 a0 5) ∧ ∀ h6, h6 = uR h3 a0 0 (mN h) → ∀ h7, h7 = nw h6 106 8 → (isO h7 a0 5) ∧ ∀ h9, h9 = uR h7 a0 1 (mN h6) → ∀ h10, h10 = nw h9 100 8 → (isO h10 a0 5) ∧ ∀ h12, h12 = uR h10 a0 2 (mN h9) → ∀ h13, h13 = uI h12 a0 3 (nI 0) → ∀ h14, h14 = uI h13 a0 4 (nI 0) → ∀ h15, h15 = uI h14 a0 5 (nI 0) → ∀ h16, h16 = uI h15 a0 6 (nI 0) → ∀ h17, h17 = uI h16 a0 7 (nI 0) → ∀ h18, h18 = uL h17 a0 8 0 → (∃ n30, n30 ≤ 9 ∧ wX7_init_L64 K  n30 a0 (nI 0) h18))
def wX2_init_L25 (K : AH → Prop)   : Nat → Nat → Int32 → AH → Prop
  | 0 => fun _ _ _ => False
  | n + 1 => fun x0 x1 h =>
  (((nI 9) ≤ x1 → K h) ∧ (¬ (nI 9) ≤ x1 → (isO h x0 1) ∧ ∀ h9, h9 = nw h 6 0 → (¬ mN h = 0) ∧ wX7_init (mN h) h9 (fun h10 => (isA h10 (mR h x0 0) 5) ∧ (isO h10 (mN h) 5) ∧ (nZ ≤ (mR h x0 0)) ∧ (vp_in x1 (ln h10 (mR h x0 0))) ∧ ∀ h16, h16 = uR h10 (mR h x0 0) x1.toNatClampNeg (mN h) → wX2_init_L25 K   n x0 (x1 + (nI 1)) h16)))
def wX2_init (a0 : Nat) (h : AH) (K : AH → Prop) : Prop :=
  (¬ a0 = 0) ∧ ∀ h2, h2 = nw h 105 9 → (isO h2 a0 1) ∧ ∀ h4, h4 = uR h2 a0 0 (mN h) → ∀ h5, h5 = uI h4 a0 1 (nI 0) → ∀ h6, h6 = uI h5 a0 2 (nI 0) → (∃ n18, n18 ≤ 10 ∧ wX2_init_L25 K  n18 a0 (nI 0) h6)
def wX6_init (a0 : Nat) (h : AH) (K : AH → Prop) : Prop :=
  (¬ a0 = 0) ∧ (isO h a0 4) ∧ ∀ h3, h3 = uI h a0 0 (nI 0) → ∀ h4, h4 = nw h3 100 8 → (isO h4 a0 4) ∧ ∀ h6, h6 = uR h4 a0 1 (mN h3) → ∀ h7, h7 = nw h6 100 8 → (isO h7 a0 4) ∧ ∀ h9, h9 = uR h7 a0 2 (mN h6) → ∀ h10, h10 = nw h9 100 8 → (isO h10 a0 4) ∧ ∀ h12, h12 = uR h10 a0 3 (mN h9) → ∀ h13, h13 = uI h12 a0 4 (nI 0) → ∀ h14, h14 = uI h13 a0 5 (nI 0) → ∀ h15, h15 = uI h14 a0 6 (nI 0) → K h15
def wX5_init_L49 (K : AH → Prop)   : Nat → Nat → Int32 → AH → Prop
  | 0 => fun _ _ _ => False
  | n + 1 => fun x0 x1 h =>
  (((nI 13) ≤ x1 → K h) ∧ (¬ (nI 13) ≤ x1 → (isO h x0 3) ∧ (isA h (mR h x0 2) 7) ∧ (mS h 11 = (21, 0)) ∧ (11 < nZ) ∧ (nZ ≤ (mR h x0 2)) ∧ (vp_in x1 (ln h (mR h x0 2))) ∧ ∀ h21, h21 = uR h (mR h x0 2) x1.toNatClampNeg 11 → wX5_init_L49 K   n x0 (x1 + (nI 1)) h21))
def wX5_init (a0 : Nat) (h : AH) (K : AH → Prop) : Prop :=
  (¬ a0 = 0) ∧ ∀ h2, h2 = nw h 104 60 → (isO h2 a0 3) ∧ ∀ h4, h4 = uR h2 a0 0 (mN h) → ∀ h5, h5 = uI h4 a0 1 (nI 0) → ∀ h6, h6 = nw h5 107 13 → (isO h6 a0 3) ∧ ∀ h8, h8 = uR h6 a0 2 (mN h5) → ∀ h9, h9 = nwM h8 13 3 → (isO h9 a0 3) ∧ ∀ h11, h11 = uR h9 a0 3 (mN h8) → ∀ h12, h12 = uI h11 a0 4 (nI 0) → ∀ h13, h13 = uI h12 a0 5 (nI 0) → (∃ n22, wX5_init_L49 K  n22 a0 (nI 0) h13)
def wJ5_init_d00df (a0 : Nat) (a1 : Int32) (h : AH) (K : AH → Prop) : Prop :=
  (¬ a0 = 0) ∧ (((nI 1) = nI 0 → False) ∧ (¬ (nI 1) = nI 0 → (¬ a1 < 0) ∧ (a1.toNatClampNeg ≤ 256) ∧ ∀ h5, h5 = nw h 103 a1.toNatClampNeg → (isO h5 a0 8) ∧ ∀ h7, h7 = uR h5 a0 0 (mN h) → ∀ h8, h8 = uI h7 a0 1 (nI 0) → K h8))
def wJ4_init_da8c8 (a0 : Nat) (h : AH) (K : AH → Prop) : Prop :=
  (¬ a0 = 0) ∧ wJ5_init_d00df a0 (nI 16) h (fun h1 => K h1)
def wX9_init (a0 : Nat) (h : AH) (K : AH → Prop) : Prop :=
  (¬ a0 = 0) ∧ ∀ h2, h2 = nw h 6 0 → (¬ mN h = 0) ∧ wX7_init (mN h) h2 (fun h3 => (isO h3 a0 0) ∧ ∀ h6, h6 = uR h3 a0 0 (mN h) → ∀ h7, h7 = nw h6 6 0 → (¬ mN h6 = 0) ∧ wX7_init (mN h6) h7 (fun h8 => (isO h8 a0 0) ∧ ∀ h11, h11 = uR h8 a0 1 (mN h6) → ∀ h12, h12 = nw h11 6 0 → (¬ mN h11 = 0) ∧ wX7_init (mN h11) h12 (fun h13 => (isO h13 a0 0) ∧ ∀ h16, h16 = uR h13 a0 2 (mN h11) → ∀ h17, h17 = nw h16 2 0 → (¬ mN h16 = 0) ∧ wX2_init (mN h16) h17 (fun h18 => (isO h18 a0 0) ∧ ∀ h21, h21 = uR h18 a0 3 (mN h16) → ∀ h22, h22 = nw h21 5 0 → (¬ mN h21 = 0) ∧ wX6_init (mN h21) h22 (fun h23 => (isO h23 a0 0) ∧ ∀ h26, h26 = uR h23 a0 4 (mN h21) → ∀ h27, h27 = nw h26 4 0 → (¬ mN h26 = 0) ∧ wX5_init (mN h26) h27 (fun h28 => (isO h28 a0 0) ∧ ∀ h31, h31 = uR h28 a0 5 (mN h26) → ∀ h32, h32 = nw h31 9 0 → (¬ mN h31 = 0) ∧ wJ4_init_da8c8 (mN h31) h32 (fun h33 => (isO h33 a0 0) ∧ ∀ h36, h36 = uR h33 a0 6 (mN h31) → ∀ h37, h37 = uI h36 a0 7 (nI 0) → ∀ h38, h38 = uI h37 a0 8 (nI 0) → ∀ h39, h39 = uI h38 a0 9 (-1) → ∀ h40, h40 = uI h39 a0 10 (-1) → ∀ h41, h41 = uI h40 a0 11 (-1) → K h41)))))))
def wX4_copyFrom_L102 (K : AH → Prop)   : Nat → Nat → Nat → Int32 → AH → Prop
  | 0 => fun _ _ _ _ => False
  | n + 1 => fun x0 x1 x2 h =>
  (((nI 12) ≤ x2 → K h) ∧ (¬ (nI 12) ≤ x2 → (isO h x1 2) ∧ (isA h (mR h x1 9) 8) ∧ (nZ ≤ (mR h x1 9)) ∧ (vp_in x2 (ln h (mR h x1 9))) ∧ (isO h x0 2) ∧ (isA h (mR h x0 9) 8) ∧ (nZ ≤ (mR h x0 9)) ∧ (vp_in x2 (ln h (mR h x0 9))) ∧ (isA h (mR h (mR h x1 9) x2.toNatClampNeg) 0) ∧ (isA h (mR h (mR h x0 9) x2.toNatClampNeg) 0) ∧ (nZ ≤ (mR h (mR h x1 9) x2.toNatClampNeg)) ∧ (nZ ≤ (mR h (mR h x0 9) x2.toNatClampNeg)) ∧ ((nI 0).toNatClampNeg + (nI 12).toNatClampNeg ≤ ln h (mR h (mR h x1 9) x2.toNatClampNeg)) ∧ ((nI 0).toNatClampNeg + (nI 12).toNatClampNeg ≤ ln h (mR h (mR h x0 9) x2.toNatClampNeg)) ∧ ∀ h51, h51 = uA h (mR h (mR h x0 9) x2.toNatClampNeg) (va_cpy (mI h (mR h (mR h x1 9) x2.toNatClampNeg)) (mI h (mR h (mR h x0 9) x2.toNatClampNeg)) (nI 0).toNatClampNeg (nI 0).toNatClampNeg (nI 12).toNatClampNeg) → (isA h (mR h x1 10) 8) ∧ (nZ ≤ (mR h x1 10)) ∧ (vp_in x2 (ln h (mR h x1 10))) ∧ (isA h (mR h x0 10) 8) ∧ (nZ ≤ (mR h x0 10)) ∧ (vp_in x2 (ln h (mR h x0 10))) ∧ (isA h (mR h (mR h x1 10) x2.toNatClampNeg) 0) ∧ (isA h (mR h (mR h x0 10) x2.toNatClampNeg) 0) ∧ (nZ ≤ (mR h (mR h x1 10) x2.toNatClampNeg)) ∧ (nZ ≤ (mR h (mR h x0 10) x2.toNatClampNeg)) ∧ ((nI 0).toNatClampNeg + (nI 12).toNatClampNeg ≤ ln h (mR h (mR h x1 10) x2.toNatClampNeg)) ∧ ((nI 0).toNatClampNeg + (nI 12).toNatClampNeg ≤ ln h (mR h (mR h x0 10) x2.toNatClampNeg)) ∧ ∀ h64, h64 = uA h51 (mR h (mR h x0 10) x2.toNatClampNeg) (va_cpy (mI h51 (mR h (mR h x1 10) x2.toNatClampNeg)) (mI h51 (mR h (mR h x0 10) x2.toNatClampNeg)) (nI 0).toNatClampNeg (nI 0).toNatClampNeg (nI 12).toNatClampNeg) → wX4_copyFrom_L102 K   n x0 x1 (x2 + (nI 1)) h64))
def wX4_copyFrom (a0 : Nat) (a1 : Nat) (h : AH) (K : AH → Prop) : Prop :=
  (isO h a1 2) ∧ (isO h a0 2) ∧ ∀ h3, h3 = uI h a0 0 (mI h a1 0) → ∀ h4, h4 = uI h3 a0 1 (mI h3 a1 1) → ∀ h5, h5 = uI h4 a0 2 (mI h4 a1 2) → ∀ h6, h6 = uI h5 a0 3 (mI h5 a1 3) → ∀ h7, h7 = uI h6 a0 4 (mI h6 a1 4) → (isA h (mR h a1 5) 0) ∧ (isA h (mR h a0 5) 0) ∧ (nZ ≤ (mR h a1 5)) ∧ (nZ ≤ (mR h a0 5)) ∧ ((nI 0).toNatClampNeg + (nI 12).toNatClampNeg ≤ ln h (mR h a1 5)) ∧ ((nI 0).toNatClampNeg + (nI 12).toNatClampNeg ≤ ln h (mR h a0 5)) ∧ ∀ h14, h14 = uA h7 (mR h a0 5) (va_cpy (mI h7 (mR h a1 5)) (mI h7 (mR h a0 5)) (nI 0).toNatClampNeg (nI 0).toNatClampNeg (nI 12).toNatClampNeg) → (isA h (mR h a1 6) 0) ∧ (isA h (mR h a0 6) 0) ∧ (nZ ≤ (mR h a1 6)) ∧ (nZ ≤ (mR h a0 6)) ∧ ((nI 0).toNatClampNeg + (nI 12).toNatClampNeg ≤ ln h (mR h a1 6)) ∧ ((nI 0).toNatClampNeg + (nI 12).toNatClampNeg ≤ ln h (mR h a0 6)) ∧ ∀ h21, h21 = uA h14 (mR h a0 6) (va_cpy (mI h14 (mR h a1 6)) (mI h14 (mR h a0 6)) (nI 0).toNatClampNeg (nI 0).toNatClampNeg (nI 12).toNatClampNeg) → (isA h (mR h a1 7) 0) ∧ (isA h (mR h a0 7) 0) ∧ (nZ ≤ (mR h a1 7)) ∧ (nZ ≤ (mR h a0 7)) ∧ ((nI 0).toNatClampNeg + (nI 12).toNatClampNeg ≤ ln h (mR h a1 7)) ∧ ((nI 0).toNatClampNeg + (nI 12).toNatClampNeg ≤ ln h (mR h a0 7)) ∧ ∀ h28, h28 = uA h21 (mR h a0 7) (va_cpy (mI h21 (mR h a1 7)) (mI h21 (mR h a0 7)) (nI 0).toNatClampNeg (nI 0).toNatClampNeg (nI 12).toNatClampNeg) → (isA h (mR h a1 8) 0) ∧ (isA h (mR h a0 8) 0) ∧ (nZ ≤ (mR h a1 8)) ∧ (nZ ≤ (mR h a0 8)) ∧ ((nI 0).toNatClampNeg + (nI 8).toNatClampNeg ≤ ln h (mR h a1 8)) ∧ ((nI 0).toNatClampNeg + (nI 8).toNatClampNeg ≤ ln h (mR h a0 8)) ∧ ∀ h35, h35 = uA h28 (mR h a0 8) (va_cpy (mI h28 (mR h a1 8)) (mI h28 (mR h a0 8)) (nI 0).toNatClampNeg (nI 0).toNatClampNeg (nI 8).toNatClampNeg) → (∃ n65, wX4_copyFrom_L102 K  n65 a0 a1 (nI 0) h35)
def wX8_copyFrom (a0 : Nat) (a1 : Nat) (h : AH) (K : AH → Prop) : Prop :=
  (isO h a1 6) ∧ (isO h a0 6) ∧ ∀ h3, h3 = uI h a0 0 (mI h a1 0) → ∀ h4, h4 = uI h3 a0 1 (mI h3 a1 1) → ∀ h5, h5 = uI h4 a0 2 (mI h4 a1 2) → ∀ h6, h6 = uI h5 a0 3 (mI h5 a1 3) → ∀ h7, h7 = uI h6 a0 4 (mI h6 a1 4) → ∀ h8, h8 = uI h7 a0 5 (mI h7 a1 5) → K h8
def wX7_copyFrom_L13 (K : AH → Prop)   : Nat → Nat → Nat → Int32 → AH → Prop
  | 0 => fun _ _ _ _ => False
  | n + 1 => fun x0 x1 x2 h =>
  (((nI 8) ≤ x2 → (isO h x1 5) ∧ (isO h x0 5) ∧ (isA h (mR h x1 2) 0) ∧ (isA h (mR h x0 2) 0) ∧ (nZ ≤ (mR h x1 2)) ∧ (nZ ≤ (mR h x0 2)) ∧ ((nI 0).toNatClampNeg + (nI 8).toNatClampNeg ≤ ln h (mR h x1 2)) ∧ ((nI 0).toNatClampNeg + (nI 8).toNatClampNeg ≤ ln h (mR h x0 2)) ∧ ∀ h14, h14 = uA h (mR h x0 2) (va_cpy (mI h (mR h x1 2)) (mI h (mR h x0 2)) (nI 0).toNatClampNeg (nI 0).toNatClampNeg (nI 8).toNatClampNeg) → ∀ h15, h15 = uI h14 x0 3 (mI h14 x1 3) → ∀ h16, h16 = uI h15 x0 4 (mI h15 x1 4) → ∀ h17, h17 = uI h16 x0 5 (mI h16 x1 5) → ∀ h18, h18 = uI h17 x0 6 (mI h17 x1 6) → ∀ h19, h19 = uI h18 x0 7 (mI h18 x1 7) → ∀ h20, h20 = uL h19 x0 8 (mL h19 x1 8) → K h20) ∧ (¬ (nI 8) ≤ x2 → (isO h x0 5) ∧ (isA h (mR h x0 1) 6) ∧ (vp_in x2 (ln h (mR h x0 1))) ∧ (isO h x1 5) ∧ (isA h (mR h x1 1) 6) ∧ (vp_in x2 (ln h (mR h x1 1))) ∧ (isO h (mR h (mR h x0 1) x2.toNatClampNeg) 6) ∧ wX8_copyFrom (mR h (mR h x0 1) x2.toNatClampNeg) (mR h (mR h x1 1) x2.toNatClampNeg) h (fun h27 => wX7_copyFrom_L13 K   n x0 x1 (x2 + (nI 1)) h27)))
def wX7_copyFrom (a0 : Nat) (a1 : Nat) (h : AH) (K : AH → Prop) : Prop :=
  (isO h a0 5) ∧ (isO h a1 5) ∧ (isO h (mR h a0 0) 2) ∧ wX4_copyFrom (mR h a0 0) (mR h a1 0) h (fun h3 => (∃ n30, wX7_copyFrom_L13 K  n30 a0 a1 (nI 0) h3))
def wX2_keep (a0 : Nat) (a1 : Nat) (h : AH) (K : AH → Prop) : Prop :=
  (isO h a0 1) ∧ (isA h (mR h a0 0) 5) ∧ (vp_in (mI h a0 1) (ln h (mR h a0 0))) ∧ (isO h (mR h (mR h a0 0) (mI h a0 1).toNatClampNeg) 5) ∧ wX7_copyFrom (mR h (mR h a0 0) (mI h a0 1).toNatClampNeg) a1 h (fun h4 => K h4)
def wJ7_fill_53178_L5 (K : AH → Prop)   : Nat → Nat → Int32 → Int32 → Int32 → AH → Prop
  | 0 => fun _ _ _ _ _ => False
  | n + 1 => fun x0 x1 x2 x3 h =>
  ((x3 ≤ x2 → K h) ∧ (¬ x3 ≤ x2 → (isA h x0 0) ∧ (nZ ≤ x0) ∧ (vp_in x2 (ln h x0)) ∧ ∀ h6, h6 = uI h x0 x2.toNatClampNeg x1 → wJ7_fill_53178_L5 K   n x0 x1 (x2 + (nI 1)) x3 h6))
def wJ7_fill_53178 (a0 : Nat) (a1 : Int32) (h : AH) (K : AH → Prop) : Prop :=
  (isA h a0 0) ∧ (∃ n7, wJ7_fill_53178_L5 K  n7 a0 a1 (nI 0) (nI (ln h a0)) h)
def wX9_contains (a0 : Int32) (a1 : Int32) (h : AH) (K : Int32 → AH → Prop) : Prop :=
  ((a1 < nI 0 → K (nI 0) h) ∧ (¬ a1 < nI 0 → (((a0 &&& ((nI 1) <<< (a1 &&& nI 31))) = nI 0 → K (nI 0) h) ∧ (¬ (a0 &&& ((nI 1) <<< (a1 &&& nI 31))) = nI 0 → K (nI 1) h))))
def wX4_nearestBlock_L8 (K : Int32 → AH → Prop)   : Nat → Nat → Int32 → Int32 → Int32 → Int32 → AH → Prop
  | 0 => fun _ _ _ _ _ _ => False
  | n + 1 => fun x0 x1 x2 x3 x4 h =>
  (isO h x0 2) ∧ ((mI h x0 0 ≤ x4 → K x2 h) ∧ (¬ mI h x0 0 ≤ x4 → wX9_contains x1 x4 h (fun r4 h3 => ((¬ r4 = nI 0 → wX4_nearestBlock_L8 K   n x0 x1 x2 x3 (x4 + (nI 1)) h3) ∧ (r4 = nI 0 → (isO h3 x0 2) ∧ (isA h3 (mR h3 x0 11) 0) ∧ (vp_in x4 (ln h3 (mR h3 x0 11))) ∧ ((x3 ≤ mI h3 (mR h3 x0 11) x4.toNatClampNeg → wX4_nearestBlock_L8 K   n x0 x1 x2 x3 (x4 + (nI 1)) h3) ∧ (¬ x3 ≤ mI h3 (mR h3 x0 11) x4.toNatClampNeg → wX4_nearestBlock_L8 K   n x0 x1 x4 (mI h3 (mR h3 x0 11) x4.toNatClampNeg) (x4 + (nI 1)) h3)))))))
def wX4_nearestBlock (a0 : Nat) (a1 : Int32) (h : AH) (K : Int32 → AH → Prop) : Prop :=
  (∃ n10, wX4_nearestBlock_L8 K  n10 a0 a1 (-1) (nI 1000000) (nI 0) h)
def wX4_has (a0 : Nat) (a1 : Int32) (h : AH) (K : Int32 → AH → Prop) : Prop :=
  ((a1 < nI 0 → K (nI 0) h) ∧ (¬ a1 < nI 0 → (isO h a0 2) ∧ ((mI h a0 0 ≤ a1 → K (nI 0) h) ∧ (¬ mI h a0 0 ≤ a1 → K (nI 1) h))))
def wX4_leadsTo (a0 : Nat) (a1 : Int32) (a2 : Int32) (h : AH) (K : Int32 → AH → Prop) : Prop :=
  (isO h a0 2) ∧ wX4_has a0 a1 h (fun r2 h1 => ((r2 = nI 0 → K (nI 0) h1) ∧ (¬ r2 = nI 0 → (isO h1 a0 2) ∧ (isA h1 (mR h1 a0 6) 0) ∧ (vp_in a1 (ln h1 (mR h1 a0 6))) ∧ ((mI h1 (mR h1 a0 6) a1.toNatClampNeg = a2 → K (nI 1) h1) ∧ (¬ mI h1 (mR h1 a0 6) a1.toNatClampNeg = a2 → (isA h1 (mR h1 a0 7) 0) ∧ (vp_in a1 (ln h1 (mR h1 a0 7))) ∧ ((¬ mI h1 (mR h1 a0 7) a1.toNatClampNeg = a2 → K (nI 0) h1) ∧ (mI h1 (mR h1 a0 7) a1.toNatClampNeg = a2 → K (nI 1) h1)))))))
def wX4_learnRoutesTo_J176 (K : AH → Prop) (c129 : Nat → Nat → Nat → Int32 → Int32 → Int32 → Int32 → Int32 → AH → Prop) (x0 : Nat) (x2 : Nat) (x3 : Nat) (x4 : Int32) (x5 : Int32) (x6 : Int32) (x8 : Int32) (x9 : Int32) (y0 : Int32) (h : AH) : Prop :=
  ((y0 = nI 0 → c129 x0 x2 x3 x4 x5 x6 x8 (x9 + (nI 1)) h) ∧ (¬ y0 = nI 0 → (isO h x0 2) ∧ wX4_leadsTo x0 x9 x6 h (fun r44 h43 => ((r44 = nI 0 → c129 x0 x2 x3 x4 x5 x6 x8 (x9 + (nI 1)) h43) ∧ (¬ r44 = nI 0 → (isO h43 x0 2) ∧ (isA h43 (mR h43 x0 11) 0) ∧ (nZ ≤ (mR h43 x0 11)) ∧ (vp_in x9 (ln h43 (mR h43 x0 11))) ∧ ∀ h50, h50 = uI h43 (mR h43 x0 11) x9.toNatClampNeg x8 → (isA h43 x2 0) ∧ (nZ ≤ x2) ∧ (vp_in x9 (ln h43 x2)) ∧ ∀ h54, h54 = uI h50 x2 x9.toNatClampNeg x6 → c129 x0 x2 x3 x4 x5 x6 x8 (x9 + (nI 1)) h54)))))
def wX4_learnRoutesTo_J171 (K : AH → Prop) (c129 : Nat → Nat → Nat → Int32 → Int32 → Int32 → Int32 → Int32 → AH → Prop) (x0 : Nat) (x2 : Nat) (x3 : Nat) (x4 : Int32) (x5 : Int32) (x6 : Int32) (x8 : Int32) (x9 : Int32) (h : AH) : Prop :=
  (wX4_learnRoutesTo_J176 K c129 x0 x2 x3 x4 x5 x6 x8 x9 (nI 1) h)
def wX4_learnRoutesTo_J175 (K : AH → Prop) (c129 : Nat → Nat → Nat → Int32 → Int32 → Int32 → Int32 → Int32 → AH → Prop) (x0 : Nat) (x2 : Nat) (x3 : Nat) (x4 : Int32) (x5 : Int32) (x6 : Int32) (x8 : Int32) (x9 : Int32) (h : AH) : Prop :=
  (wX4_learnRoutesTo_J176 K c129 x0 x2 x3 x4 x5 x6 x8 x9 (nI 0) h)
def wX4_learnRoutesTo_L129 (K : AH → Prop) (c215 : Nat → Nat → Nat → Int32 → Int32 → AH → Prop)  : Nat → Nat → Nat → Nat → Int32 → Int32 → Int32 → Int32 → Int32 → AH → Prop
  | 0 => fun _ _ _ _ _ _ _ _ _ => False
  | n + 1 => fun x0 x2 x3 x4 x5 x6 x8 x9 h =>
  (isO h x0 2) ∧ ((mI h x0 0 ≤ x9 → c215 x0 x2 x3 x4 x5 h) ∧ (¬ mI h x0 0 ≤ x9 → (isA h (mR h x0 11) 0) ∧ (vp_in x9 (ln h (mR h x0 11))) ∧ ((x8 < mI h (mR h x0 11) x9.toNatClampNeg → (wX4_learnRoutesTo_J171 K (wX4_learnRoutesTo_L129 K c215  n) x0 x2 x3 x4 x5 x6 x8 x9 h)) ∧ (¬ x8 < mI h (mR h x0 11) x9.toNatClampNeg → ((¬ x8 = mI h (mR h x0 11) x9.toNatClampNeg → (wX4_learnRoutesTo_J175 K (wX4_learnRoutesTo_L129 K c215  n) x0 x2 x3 x4 x5 x6 x8 x9 h)) ∧ (x8 = mI h (mR h x0 11) x9.toNatClampNeg → (isA h x2 0) ∧ (vp_in x9 (ln h x2)) ∧ ((mI h x2 x9.toNatClampNeg ≤ x6 → (wX4_learnRoutesTo_J175 K (wX4_learnRoutesTo_L129 K c215  n) x0 x2 x3 x4 x5 x6 x8 x9 h)) ∧ (¬ mI h x2 x9.toNatClampNeg ≤ x6 → (wX4_learnRoutesTo_J171 K (wX4_learnRoutesTo_L129 K c215  n) x0 x2 x3 x4 x5 x6 x8 x9 h)))))))))
def wX4_learnRoutesTo_J104 (K : AH → Prop) (c46 : Nat → Nat → Nat → Int32 → Int32 → AH → Prop) (x0 : Nat) (x2 : Nat) (x3 : Nat) (x4 : Int32) (x5 : Int32) (x6 : Int32) (h : AH) : Prop :=
  (isO h x0 2) ∧ (isA h (mR h x0 11) 0) ∧ (vp_in x6 (ln h (mR h x0 11))) ∧ (isA h (mR h x0 5) 0) ∧ (vp_in x6 (ln h (mR h x0 5))) ∧ ∀ v35 : Int32, v35 = ((mI h (mR h x0 11) x6.toNatClampNeg + (mI h (mR h x0 5) x6.toNatClampNeg * (nI 16))) + (nI 1)) → (∃ n66, wX4_learnRoutesTo_L129 K (fun x0_60 x2_61 x3_62 x4_63 x5_64 h65 => c46 x0_60 x2_61 x3_62 x4_63 (x5_64 + (nI 1)) h65) n66 x0 x2 x3 x4 x5 x6 v35 (nI 0) h)
def wX4_learnRoutesTo_L46 (K : AH → Prop)   : Nat → Nat → Nat → Nat → Int32 → Int32 → AH → Prop
  | 0 => fun _ _ _ _ _ _ => False
  | n + 1 => fun x0 x2 x3 x4 x5 h =>
  (isO h x0 2) ∧ ((mI h x0 0 ≤ x5 → K h) ∧ (¬ mI h x0 0 ≤ x5 → wX4_nearestBlock x0 x4 h (fun r23 h22 => ((¬ r23 = (-1) → ∀ v25 : Int32, v25 = (x4 ||| ((nI 1) <<< (r23 &&& nI 31))) → (isA h22 x2 0) ∧ (vp_in r23 (ln h22 x2)) ∧ ((mI h22 x2 r23.toNatClampNeg = (-1) → (wX4_learnRoutesTo_J104 K (wX4_learnRoutesTo_L46 K   n) x0 x2 x3 v25 x5 r23 h22)) ∧ (¬ mI h22 x2 r23.toNatClampNeg = (-1) → (isA h22 x3 0) ∧ (vp_in (mI h22 x2 r23.toNatClampNeg) (ln h22 x3)) ∧ (nZ ≤ x3) ∧ (vp_in r23 (ln h22 x3)) ∧ ∀ h71, h71 = uI h22 x3 r23.toNatClampNeg (mI h22 x3 (mI h22 x2 r23.toNatClampNeg).toNatClampNeg ||| ((nI 1) <<< (mI h22 x2 r23.toNatClampNeg &&& nI 31))) → (wX4_learnRoutesTo_J104 K (wX4_learnRoutesTo_L46 K   n) x0 x2 x3 v25 x5 r23 h71)))) ∧ (r23 = (-1) → K h22)))))
def wX4_learnRoutesTo (a0 : Nat) (a1 : Int32) (h : AH) (K : AH → Prop) : Prop :=
  (isO h a0 2) ∧ (isA h (mR h a0 9) 8) ∧ (nZ ≤ (mR h a0 9)) ∧ (vp_in a1 (ln h (mR h a0 9))) ∧ (isA h (mR h a0 10) 8) ∧ (nZ ≤ (mR h a0 10)) ∧ (vp_in a1 (ln h (mR h a0 10))) ∧ wJ7_fill_53178 (mR h (mR h a0 9) a1.toNatClampNeg) (-1) h (fun h8 => wJ7_fill_53178 (mR h (mR h a0 10) a1.toNatClampNeg) (nI 0) h8 (fun h10 => (isO h10 a0 2) ∧ wJ7_fill_53178 (mR h10 a0 11) (nI 1000000) h10 (fun h13 => (isO h13 a0 2) ∧ (isA h13 (mR h13 a0 11) 0) ∧ (nZ ≤ (mR h13 a0 11)) ∧ (vp_in a1 (ln h13 (mR h13 a0 11))) ∧ ∀ h19, h19 = uI h13 (mR h13 a0 11) a1.toNatClampNeg (nI 0) → (∃ n72, wX4_learnRoutesTo_L46 K  n72 a0 (mR h (mR h a0 9) a1.toNatClampNeg) (mR h (mR h a0 10) a1.toNatClampNeg) (nI 0) (nI 0) h19))))
def wX4_learnRoutes_L2 (K : AH → Prop)   : Nat → Nat → Int32 → AH → Prop
  | 0 => fun _ _ _ => False
  | n + 1 => fun x0 x1 h =>
  (isO h x0 2) ∧ ((mI h x0 0 ≤ x1 → K h) ∧ (¬ mI h x0 0 ≤ x1 → wX4_learnRoutesTo x0 x1 h (fun h3 => wX4_learnRoutes_L2 K   n x0 (x1 + (nI 1)) h3)))
def wX4_learnRoutes (a0 : Nat) (h : AH) (K : AH → Prop) : Prop :=
  (∃ n5, wX4_learnRoutes_L2 K  n5 a0 (nI 0) h)
def wX4_makeBlock (a0 : Nat) (a1 : Int32) (h : AH) (K : Int32 → AH → Prop) : Prop :=
  ((a1 < (nI 1) → K (-2) h) ∧ (¬ a1 < (nI 1) → ((a1 ≤ (nI 9) → (isO h a0 2) ∧ ((mI h a0 0 < (nI 12) → (isA h (mR h a0 5) 0) ∧ (nZ ≤ (mR h a0 5)) ∧ (vp_in (mI h a0 0) (ln h (mR h a0 5))) ∧ ∀ h8, h8 = uI h (mR h a0 5) (mI h a0 0).toNatClampNeg a1 → (isA h (mR h a0 6) 0) ∧ (nZ ≤ (mR h a0 6)) ∧ (vp_in (mI h8 a0 0) (ln h (mR h a0 6))) ∧ ∀ h12, h12 = uI h8 (mR h a0 6) (mI h8 a0 0).toNatClampNeg (-1) → (isA h (mR h a0 7) 0) ∧ (nZ ≤ (mR h a0 7)) ∧ (vp_in (mI h12 a0 0) (ln h (mR h a0 7))) ∧ ∀ h16, h16 = uI h12 (mR h a0 7) (mI h12 a0 0).toNatClampNeg (-1) → ∀ h17, h17 = uI h16 a0 0 (mI h16 a0 0 + (nI 1)) → wX4_learnRoutes a0 h17 (fun h18 => (isO h18 a0 2) ∧ K (mI h18 a0 0 - (nI 1)) h18)) ∧ (¬ mI h a0 0 < (nI 12) → K (-3) h))) ∧ (¬ a1 ≤ (nI 9) → K (-2) h))))
def wX9_throwFor (a0 : Int32) (h : AH) (K : AH → Prop) (T : String → AH → Prop) : Prop :=
  ((¬ a0 = (-1) → ((¬ a0 = (-2) → ((¬ a0 = (-4) → ((¬ a0 = (-5) → T "java/lang/IllegalStateException" h) ∧ (a0 = (-5) → T "java/lang/UnsupportedOperationException" h))) ∧ (a0 = (-4) → T "java/util/NoSuchElementException" h))) ∧ (a0 = (-2) → T "java/lang/IllegalArgumentException" h))) ∧ (a0 = (-1) → T "java/lang/IndexOutOfBoundsException" h))
def wX2_commit (a0 : Nat) (h : AH) (K : AH → Prop) : Prop :=
  (isO h a0 1) ∧ ∀ h2, h2 = uI h a0 1 ((mI h a0 1 + (nI 1)) - (mI h a0 1 + (nI 1)) / (nI 9) * (nI 9)) → ∀ h3, h3 = uI h2 a0 2 (if (nI 8) < (mI h2 a0 2 + (nI 1)) then (nI 8) else (mI h2 a0 2 + (nI 1))) → K h3
def wX9_settle_J8 (K : Int32 → AH → Prop) (T : String → AH → Prop)  (x0 : Nat) (x1 : Int32) (h : AH) : Prop :=
  (isO h x0 0) ∧ (isO h (mR h x0 3) 1) ∧ wX2_commit (mR h x0 3) h (fun h3 => K x1 h3)
def wX9_settle (a0 : Nat) (a1 : Int32) (h : AH) (K : Int32 → AH → Prop) (T : String → AH → Prop) : Prop :=
  ((nI 0 ≤ a1 → (wX9_settle_J8 K T a0 a1 h)) ∧ (¬ nI 0 ≤ a1 → wX9_throwFor a1 h (fun h6 => (wX9_settle_J8 K T a0 a1 h6)) T))
def wX9_addBlock (a0 : Nat) (a1 : Int32) (h : AH) (K : Int32 → AH → Prop) (T : String → AH → Prop) : Prop :=
  (isO h a0 0) ∧ (isO h (mR h a0 3) 1) ∧ wX2_keep (mR h a0 3) (mR h a0 0) h (fun h2 => (isO h2 a0 0) ∧ (isO h2 (mR h2 a0 0) 5) ∧ (isO h2 (mR h2 (mR h2 a0 0) 0) 2) ∧ wX4_makeBlock (mR h2 (mR h2 a0 0) 0) a1 h2 (fun r7 h6 => (isO h6 a0 0) ∧ wX9_settle a0 r7 h6 (fun r9 h8 => K r9 h8) T))
def wX4_hasExit (a0 : Nat) (a1 : Int32) (h : AH) (K : Int32 → AH → Prop) : Prop :=
  (isO h a0 2) ∧ wX4_has a0 a1 h (fun r2 h1 => ((r2 = nI 0 → K (nI 0) h1) ∧ (¬ r2 = nI 0 → (isO h1 a0 2) ∧ (isA h1 (mR h1 a0 6) 0) ∧ (vp_in a1 (ln h1 (mR h1 a0 6))) ∧ ((mI h1 (mR h1 a0 6) a1.toNatClampNeg = (-1) → K (nI 0) h1) ∧ (¬ mI h1 (mR h1 a0 6) a1.toNatClampNeg = (-1) → K (nI 1) h1)))))
def wX4_makePoint (a0 : Nat) (a1 : Int32) (a2 : Int32) (a3 : Int32) (h : AH) (K : Int32 → AH → Prop) : Prop :=
  (isO h a0 2) ∧ wX4_has a0 a1 h (fun r2 h1 => ((r2 = nI 0 → K (-1) h1) ∧ (¬ r2 = nI 0 → (isO h1 a0 2) ∧ wX4_has a0 a2 h1 (fun r5 h4 => ((r5 = nI 0 → K (-1) h4) ∧ (¬ r5 = nI 0 → (isO h4 a0 2) ∧ wX4_has a0 a3 h4 (fun r8 h7 => ((¬ r8 = nI 0 → ((a1 = a2 → K (-2) h7) ∧ (¬ a1 = a2 → ((a1 = a3 → K (-2) h7) ∧ (¬ a1 = a3 → ((¬ a2 = a3 → (isO h7 a0 2) ∧ (((nI 8) ≤ mI h7 a0 1 → K (-3) h7) ∧ (¬ (nI 8) ≤ mI h7 a0 1 → wX4_hasExit a0 a1 h7 (fun r16 h15 => ((r16 = nI 0 → (isO h15 a0 2) ∧ (isA h15 (mR h15 a0 6) 0) ∧ (nZ ≤ (mR h15 a0 6)) ∧ (vp_in a1 (ln h15 (mR h15 a0 6))) ∧ ∀ h22, h22 = uI h15 (mR h15 a0 6) a1.toNatClampNeg a2 → (isA h15 (mR h15 a0 7) 0) ∧ (nZ ≤ (mR h15 a0 7)) ∧ (vp_in a1 (ln h15 (mR h15 a0 7))) ∧ ∀ h26, h26 = uI h22 (mR h15 a0 7) a1.toNatClampNeg a3 → (isA h15 (mR h15 a0 8) 0) ∧ (nZ ≤ (mR h15 a0 8)) ∧ (vp_in (mI h26 a0 1) (ln h15 (mR h15 a0 8))) ∧ ∀ h30, h30 = uI h26 (mR h15 a0 8) (mI h26 a0 1).toNatClampNeg a1 → ∀ h31, h31 = uI h30 a0 1 (mI h30 a0 1 + (nI 1)) → wX4_learnRoutes a0 h31 (fun h32 => (isO h32 a0 2) ∧ K (mI h32 a0 1 - (nI 1)) h32)) ∧ (¬ r16 = nI 0 → K (-3) h15)))))) ∧ (a2 = a3 → K (-2) h7))))))) ∧ (r8 = nI 0 → K (-1) h7)))))))))
def wX9_addPoint (a0 : Nat) (a1 : Int32) (a2 : Int32) (a3 : Int32) (h : AH) (K : Int32 → AH → Prop) (T : String → AH → Prop) : Prop :=
  (isO h a0 0) ∧ (isO h (mR h a0 3) 1) ∧ wX2_keep (mR h a0 3) (mR h a0 0) h (fun h2 => (isO h2 a0 0) ∧ (isO h2 (mR h2 a0 0) 5) ∧ (isO h2 (mR h2 (mR h2 a0 0) 0) 2) ∧ wX4_makePoint (mR h2 (mR h2 a0 0) 0) a1 a2 a3 h2 (fun r7 h6 => (isO h6 a0 0) ∧ wX9_settle a0 r7 h6 (fun r9 h8 => K r9 h8) T))
def wX4_makeLink (a0 : Nat) (a1 : Int32) (a2 : Int32) (h : AH) (K : Int32 → AH → Prop) : Prop :=
  (isO h a0 2) ∧ wX4_has a0 a1 h (fun r2 h1 => ((r2 = nI 0 → K (-1) h1) ∧ (¬ r2 = nI 0 → (isO h1 a0 2) ∧ wX4_has a0 a2 h1 (fun r5 h4 => ((¬ r5 = nI 0 → ((¬ a1 = a2 → (isO h4 a0 2) ∧ wX4_hasExit a0 a1 h4 (fun r9 h8 => ((r9 = nI 0 → (isO h8 a0 2) ∧ (isA h8 (mR h8 a0 6) 0) ∧ (nZ ≤ (mR h8 a0 6)) ∧ (vp_in a1 (ln h8 (mR h8 a0 6))) ∧ ∀ h15, h15 = uI h8 (mR h8 a0 6) a1.toNatClampNeg a2 → (isA h8 (mR h8 a0 7) 0) ∧ (nZ ≤ (mR h8 a0 7)) ∧ (vp_in a1 (ln h8 (mR h8 a0 7))) ∧ ∀ h19, h19 = uI h15 (mR h8 a0 7) a1.toNatClampNeg a2 → ∀ h20, h20 = uI h19 a0 2 (mI h19 a0 2 + (nI 1)) → wX4_learnRoutes a0 h20 (fun h21 => (isO h21 a0 2) ∧ K (mI h21 a0 2) h21)) ∧ (¬ r9 = nI 0 → K (-3) h8)))) ∧ (a1 = a2 → K (-2) h4))) ∧ (r5 = nI 0 → K (-1) h4))))))
def wX9_addLink (a0 : Nat) (a1 : Int32) (a2 : Int32) (h : AH) (K : Int32 → AH → Prop) (T : String → AH → Prop) : Prop :=
  (isO h a0 0) ∧ (isO h (mR h a0 3) 1) ∧ wX2_keep (mR h a0 3) (mR h a0 0) h (fun h2 => (isO h2 a0 0) ∧ (isO h2 (mR h2 a0 0) 5) ∧ (isO h2 (mR h2 (mR h2 a0 0) 0) 2) ∧ wX4_makeLink (mR h2 (mR h2 a0 0) 0) a1 a2 h2 (fun r7 h6 => (isO h6 a0 0) ∧ wX9_settle a0 r7 h6 (fun r9 h8 => K r9 h8) T))
def wX7_isReserved_L2 (K : Int32 → AH → Prop)   : Nat → Nat → Int32 → Int32 → AH → Prop
  | 0 => fun _ _ _ _ => False
  | n + 1 => fun x0 x1 x2 h =>
  (isO h x0 5) ∧ ((mI h x0 3 ≤ x2 → K (nI 0) h) ∧ (¬ mI h x0 3 ≤ x2 → (isA h (mR h x0 1) 6) ∧ (vp_in x2 (ln h (mR h x0 1))) ∧ (isO h (mR h (mR h x0 1) x2.toNatClampNeg) 6) ∧ wX9_contains (mI h (mR h (mR h x0 1) x2.toNatClampNeg) 3) x1 h (fun r7 h6 => ((r7 = nI 0 → wX7_isReserved_L2 K   n x0 x1 (x2 + (nI 1)) h6) ∧ (¬ r7 = nI 0 → K (nI 1) h6)))))
def wX7_isReserved (a0 : Nat) (a1 : Int32) (h : AH) (K : Int32 → AH → Prop) : Prop :=
  (∃ n9, wX7_isReserved_L2 K  n9 a0 a1 (nI 0) h)
def wJ6_bitCount_0f7a4 (a0 : Int32) (h : AH) (K : Int32 → AH → Prop) : Prop :=
  ∀ v1 : Int32, v1 = (a0 - ((a0.toUInt32 >>> ((nI 1).toUInt32 &&& Int32.toUInt32 (nI 31))).toInt32 &&& (nI 1431655765))) → ∀ v3 : Int32, v3 = ((v1 &&& (nI 858993459)) + ((v1.toUInt32 >>> ((nI 2).toUInt32 &&& Int32.toUInt32 (nI 31))).toInt32 &&& (nI 858993459))) → ∀ v5 : Int32, v5 = ((v3 + (v3.toUInt32 >>> ((nI 4).toUInt32 &&& Int32.toUInt32 (nI 31))).toInt32) &&& (nI 252645135)) → ∀ v7 : Int32, v7 = (v5 + (v5.toUInt32 >>> ((nI 8).toUInt32 &&& Int32.toUInt32 (nI 31))).toInt32) → ∀ v9 : Int32, v9 = (v7 + (v7.toUInt32 >>> ((nI 16).toUInt32 &&& Int32.toUInt32 (nI 31))).toInt32) → K (v9 &&& (nI 63)) h
def wX7_shutBlock (a0 : Nat) (a1 : Int32) (h : AH) (K : Int32 → AH → Prop) : Prop :=
  (isO h a0 5) ∧ (isO h (mR h a0 0) 2) ∧ wX4_has (mR h a0 0) a1 h (fun r3 h2 => ((¬ r3 = nI 0 → (isO h2 a0 5) ∧ (isO h2 (mR h2 a0 0) 2) ∧ wX9_contains (mI h2 (mR h2 a0 0) 3) a1 h2 (fun r8 h7 => ((¬ r8 = nI 0 → K (-3) h7) ∧ (r8 = nI 0 → (isO h7 a0 5) ∧ wX7_isReserved a0 a1 h7 (fun r11 h10 => ((r11 = nI 0 → (isO h10 a0 5) ∧ (isO h10 (mR h10 a0 0) 2) ∧ ∀ h15, h15 = uI h10 (mR h10 a0 0) 3 (mI h10 (mR h10 a0 0) 3 ||| ((nI 1) <<< (a1 &&& nI 31))) → wJ6_bitCount_0f7a4 (mI h15 (mR h10 a0 0) 3) h15 (fun r17 h16 => K r17 h16)) ∧ (¬ r11 = nI 0 → K (-3) h10))))))) ∧ (r3 = nI 0 → K (-1) h2)))
def wX9_shut (a0 : Nat) (a1 : Int32) (h : AH) (K : Int32 → AH → Prop) (T : String → AH → Prop) : Prop :=
  (isO h a0 0) ∧ (isO h (mR h a0 3) 1) ∧ wX2_keep (mR h a0 3) (mR h a0 0) h (fun h2 => (isO h2 a0 0) ∧ (isO h2 (mR h2 a0 0) 5) ∧ wX7_shutBlock (mR h2 a0 0) a1 h2 (fun r6 h5 => (isO h5 a0 0) ∧ wX9_settle a0 r6 h5 (fun r8 h7 => K r8 h7) T))
def wX7_openBlock (a0 : Nat) (a1 : Int32) (h : AH) (K : Int32 → AH → Prop) : Prop :=
  (isO h a0 5) ∧ (isO h (mR h a0 0) 2) ∧ wX4_has (mR h a0 0) a1 h (fun r3 h2 => ((¬ r3 = nI 0 → (isO h2 a0 5) ∧ (isO h2 (mR h2 a0 0) 2) ∧ wX9_contains (mI h2 (mR h2 a0 0) 3) a1 h2 (fun r8 h7 => ((¬ r8 = nI 0 → (isO h7 a0 5) ∧ (isO h7 (mR h7 a0 0) 2) ∧ ∀ h12, h12 = uI h7 (mR h7 a0 0) 3 (mI h7 (mR h7 a0 0) 3 &&& (((nI 1) <<< (a1 &&& nI 31)) ^^^ (-1))) → wJ6_bitCount_0f7a4 (mI h12 (mR h7 a0 0) 3) h12 (fun r14 h13 => K r14 h13)) ∧ (r8 = nI 0 → K (-3) h7)))) ∧ (r3 = nI 0 → K (-1) h2)))
def wX9_open (a0 : Nat) (a1 : Int32) (h : AH) (K : Int32 → AH → Prop) (T : String → AH → Prop) : Prop :=
  (isO h a0 0) ∧ (isO h (mR h a0 3) 1) ∧ wX2_keep (mR h a0 3) (mR h a0 0) h (fun h2 => (isO h2 a0 0) ∧ (isO h2 (mR h2 a0 0) 5) ∧ wX7_openBlock (mR h2 a0 0) a1 h2 (fun r6 h5 => (isO h5 a0 0) ∧ wX9_settle a0 r6 h5 (fun r8 h7 => K r8 h7) T))
def wX4_hasPoint (a0 : Nat) (a1 : Int32) (h : AH) (K : Int32 → AH → Prop) : Prop :=
  ((a1 < nI 0 → K (nI 0) h) ∧ (¬ a1 < nI 0 → (isO h a0 2) ∧ ((mI h a0 1 ≤ a1 → K (nI 0) h) ∧ (¬ mI h a0 1 ≤ a1 → K (nI 1) h))))
def wX4_stemOf (a0 : Nat) (a1 : Int32) (h : AH) (K : Int32 → AH → Prop) : Prop :=
  (isO h a0 2) ∧ wX4_hasPoint a0 a1 h (fun r2 h1 => ((r2 = nI 0 → K (-1) h1) ∧ (¬ r2 = nI 0 → (isO h1 a0 2) ∧ (isA h1 (mR h1 a0 8) 0) ∧ (vp_in a1 (ln h1 (mR h1 a0 8))) ∧ K (mI h1 (mR h1 a0 8) a1.toNatClampNeg) h1)))
def wX8_isRouted (a0 : Nat) (h : AH) (K : Int32 → AH → Prop) : Prop :=
  (isO h a0 6) ∧ ((mI h a0 3 = nI 0 → K (nI 0) h) ∧ (¬ mI h a0 3 = nI 0 → K (nI 1) h))
def wX8_held (a0 : Nat) (h : AH) (K : Int32 → AH → Prop) : Prop :=
  (isO h a0 6) ∧ K (mI h a0 3 ||| ((nI 1) <<< (mI h a0 1 &&& nI 31))) h
def wX8_locks (a0 : Nat) (a1 : Int32) (h : AH) (K : Int32 → AH → Prop) : Prop :=
  (isO h a0 6) ∧ wX8_isRouted a0 h (fun r2 h1 => ((r2 = nI 0 → K (nI 0) h1) ∧ (¬ r2 = nI 0 → (isO h1 a0 6) ∧ ((a1 = mI h1 a0 2 → K (nI 0) h1) ∧ (¬ a1 = mI h1 a0 2 → wX8_held a0 h1 (fun r7 h6 => wX9_contains r7 a1 h6 (fun r9 h8 => ((r9 = nI 0 → K (nI 0) h8) ∧ (¬ r9 = nI 0 → K (nI 1) h8)))))))))
def wX7_lockerOf_L11 (K : Int32 → AH → Prop)   : Nat → Nat → Int32 → Int32 → AH → Prop
  | 0 => fun _ _ _ _ => False
  | n + 1 => fun x0 x2 x3 h =>
  (isO h x0 5) ∧ ((mI h x0 3 ≤ x3 → K (-1) h) ∧ (¬ mI h x0 3 ≤ x3 → (isA h (mR h x0 1) 6) ∧ (vp_in x3 (ln h (mR h x0 1))) ∧ (isO h (mR h (mR h x0 1) x3.toNatClampNeg) 6) ∧ wX8_locks (mR h (mR h x0 1) x3.toNatClampNeg) x2 h (fun r9 h8 => ((r9 = nI 0 → wX7_lockerOf_L11 K   n x0 x2 (x3 + (nI 1)) h8) ∧ (¬ r9 = nI 0 → (isO h8 x0 5) ∧ (isA h8 (mR h8 x0 1) 6) ∧ (vp_in x3 (ln h8 (mR h8 x0 1))) ∧ (isO h8 (mR h8 (mR h8 x0 1) x3.toNatClampNeg) 6) ∧ K (mI h8 (mR h8 (mR h8 x0 1) x3.toNatClampNeg) 0) h8)))))
def wX7_lockerOf (a0 : Nat) (a1 : Int32) (h : AH) (K : Int32 → AH → Prop) : Prop :=
  (isO h a0 5) ∧ (isO h (mR h a0 0) 2) ∧ wX4_stemOf (mR h a0 0) a1 h (fun r3 h2 => (∃ n16, wX7_lockerOf_L11 K  n16 a0 r3 (nI 0) h2))
def wX4_turn (a0 : Nat) (a1 : Int32) (h : AH) (K : AH → Prop) : Prop :=
  (isO h a0 2) ∧ wX4_hasPoint a0 a1 h (fun r2 h1 => ((r2 = nI 0 → K h1) ∧ (¬ r2 = nI 0 → (isO h1 a0 2) ∧ wX4_stemOf a0 a1 h1 (fun r6 h5 => (isO h5 a0 2) ∧ ∀ h8, h8 = uI h5 a0 4 (mI h1 a0 4 ^^^ ((nI 1) <<< (r6 &&& nI 31))) → K h8))))
def wX4_pointsLeft (a0 : Nat) (a1 : Int32) (h : AH) (K : Int32 → AH → Prop) : Prop :=
  (isO h a0 2) ∧ wX4_stemOf a0 a1 h (fun r3 h2 => wX9_contains (mI h a0 4) r3 h2 (fun r5 h4 => ((¬ r5 = nI 0 → K (nI 0) h4) ∧ (r5 = nI 0 → K (nI 1) h4))))
def wX7_movePoint (a0 : Nat) (a1 : Int32) (h : AH) (K : Int32 → AH → Prop) : Prop :=
  (isO h a0 5) ∧ (isO h (mR h a0 0) 2) ∧ wX4_hasPoint (mR h a0 0) a1 h (fun r3 h2 => ((¬ r3 = nI 0 → (isO h2 a0 5) ∧ wX7_lockerOf a0 a1 h2 (fun r6 h5 => ((r6 = (-1) → (isO h5 a0 5) ∧ (isO h5 (mR h5 a0 0) 2) ∧ wX4_turn (mR h5 a0 0) a1 h5 (fun h9 => (isO h9 a0 5) ∧ (isO h9 (mR h9 a0 0) 2) ∧ wX4_pointsLeft (mR h9 a0 0) a1 h9 (fun r13 h12 => ((r13 = nI 0 → K (nI 0) h12) ∧ (¬ r13 = nI 0 → K (nI 1) h12))))) ∧ (¬ r6 = (-1) → K (-3) h5)))) ∧ (r3 = nI 0 → K (-1) h2)))
def wX9_throwPoint (a0 : Nat) (a1 : Int32) (h : AH) (K : Int32 → AH → Prop) (T : String → AH → Prop) : Prop :=
  (isO h a0 0) ∧ (isO h (mR h a0 3) 1) ∧ wX2_keep (mR h a0 3) (mR h a0 0) h (fun h2 => (isO h2 a0 0) ∧ (isO h2 (mR h2 a0 0) 5) ∧ wX7_movePoint (mR h2 a0 0) a1 h2 (fun r6 h5 => (isO h5 a0 0) ∧ wX9_settle a0 r6 h5 (fun r8 h7 => ((¬ r8 = (nI 1) → K (nI 0) h7) ∧ (r8 = (nI 1) → K (nI 1) h7))) T))
def wX7_held_L4 (K : Int32 → AH → Prop)   : Nat → Nat → Int32 → Int32 → AH → Prop
  | 0 => fun _ _ _ _ => False
  | n + 1 => fun x0 x1 x2 h =>
  (isO h x0 5) ∧ ((mI h x0 3 ≤ x2 → K x1 h) ∧ (¬ mI h x0 3 ≤ x2 → (isA h (mR h x0 1) 6) ∧ (vp_in x2 (ln h (mR h x0 1))) ∧ (isO h (mR h (mR h x0 1) x2.toNatClampNeg) 6) ∧ wX8_held (mR h (mR h x0 1) x2.toNatClampNeg) h (fun r6 h5 => wX7_held_L4 K   n x0 (x1 ||| r6) (x2 + (nI 1)) h5)))
def wX7_held (a0 : Nat) (h : AH) (K : Int32 → AH → Prop) : Prop :=
  (∃ n8, wX7_held_L4 K  n8 a0 (nI 0) (nI 0) h)
def wX8_begin (a0 : Nat) (a1 : Int32) (a2 : Int32) (a3 : Int32) (h : AH) (K : AH → Prop) : Prop :=
  (isO h a0 6) ∧ ∀ h2, h2 = uI h a0 0 a1 → ∀ h3, h3 = uI h2 a0 1 a2 → ∀ h4, h4 = uI h3 a0 2 a3 → ∀ h5, h5 = uI h4 a0 3 (nI 0) → ∀ h6, h6 = uI h5 a0 4 (nI 0) → ∀ h7, h7 = uI h6 a0 5 (nI 0) → K h7
def wX7_joinQueue (a0 : Nat) (a1 : Int32) (h : AH) (K : AH → Prop) : Prop :=
  (isO h a0 5) ∧ (((nI 8) ≤ mI h a0 4 → K h) ∧ (¬ (nI 8) ≤ mI h a0 4 → (isA h (mR h a0 2) 0) ∧ (nZ ≤ (mR h a0 2)) ∧ (vp_in (mI h a0 4) (ln h (mR h a0 2))) ∧ ∀ h6, h6 = uI h (mR h a0 2) (mI h a0 4).toNatClampNeg a1 → ∀ h7, h7 = uI h6 a0 4 (mI h6 a0 4 + (nI 1)) → K h7))
def wX7_bringTrain (a0 : Nat) (a1 : Int32) (a2 : Int32) (h : AH) (K : Int32 → AH → Prop) : Prop :=
  (isO h a0 5) ∧ (isO h (mR h a0 0) 2) ∧ wX4_has (mR h a0 0) a1 h (fun r3 h2 => ((r3 = nI 0 → K (-1) h2) ∧ (¬ r3 = nI 0 → (isO h2 a0 5) ∧ (isO h2 (mR h2 a0 0) 2) ∧ wX4_has (mR h2 a0 0) a2 h2 (fun r7 h6 => ((¬ r7 = nI 0 → ((¬ a1 = a2 → (isO h6 a0 5) ∧ (((nI 8) ≤ mI h6 a0 3 → K (-3) h6) ∧ (¬ (nI 8) ≤ mI h6 a0 3 → (isO h6 (mR h6 a0 0) 2) ∧ wX7_held a0 h6 (fun r14 h13 => wX9_contains (mI h6 (mR h6 a0 0) 3 ||| r14) a1 h13 (fun r16 h15 => ((r16 = nI 0 → (isO h15 a0 5) ∧ (isA h15 (mR h15 a0 1) 6) ∧ (vp_in (mI h15 a0 3) (ln h15 (mR h15 a0 1))) ∧ (isO h15 (mR h15 (mR h15 a0 1) (mI h15 a0 3).toNatClampNeg) 6) ∧ wX8_begin (mR h15 (mR h15 a0 1) (mI h15 a0 3).toNatClampNeg) (mI h15 a0 5) a1 a2 h15 (fun h21 => (isO h21 a0 5) ∧ ∀ h24, h24 = uI h21 a0 3 (mI h21 a0 3 + (nI 1)) → ∀ h25, h25 = uI h24 a0 5 (mI h24 a0 5 + (nI 1)) → wX7_joinQueue a0 (mI h15 a0 5) h25 (fun h26 => K (mI h15 a0 5) h26))) ∧ (¬ r16 = nI 0 → K (-3) h15))))))) ∧ (a1 = a2 → K (-2) h6))) ∧ (r7 = nI 0 → K (-1) h6))))))
def wX9_addTrain (a0 : Nat) (a1 : Int32) (a2 : Int32) (h : AH) (K : Int32 → AH → Prop) (T : String → AH → Prop) : Prop :=
  (isO h a0 0) ∧ (isO h (mR h a0 3) 1) ∧ wX2_keep (mR h a0 3) (mR h a0 0) h (fun h2 => (isO h2 a0 0) ∧ (isO h2 (mR h2 a0 0) 5) ∧ wX7_bringTrain (mR h2 a0 0) a1 a2 h2 (fun r6 h5 => (isO h5 a0 0) ∧ wX9_settle a0 r6 h5 (fun r8 h7 => K r8 h7) T))
def wX7_find_L2 (K : Nat → AH → Prop)   : Nat → Nat → Int32 → Int32 → AH → Prop
  | 0 => fun _ _ _ _ => False
  | n + 1 => fun x0 x1 x2 h =>
  (isO h x0 5) ∧ ((mI h x0 3 ≤ x2 → K 0 h) ∧ (¬ mI h x0 3 ≤ x2 → (isA h (mR h x0 1) 6) ∧ (vp_in x2 (ln h (mR h x0 1))) ∧ (isO h (mR h (mR h x0 1) x2.toNatClampNeg) 6) ∧ ((¬ mI h (mR h (mR h x0 1) x2.toNatClampNeg) 0 = x1 → wX7_find_L2 K   n x0 x1 (x2 + (nI 1)) h) ∧ (mI h (mR h (mR h x0 1) x2.toNatClampNeg) 0 = x1 → K (mR h (mR h x0 1) x2.toNatClampNeg) h))))
def wX7_find (a0 : Nat) (a1 : Int32) (h : AH) (K : Nat → AH → Prop) : Prop :=
  (∃ n7, wX7_find_L2 K  n7 a0 a1 (nI 0) h)
def wX4_routeBlocks (a0 : Nat) (a1 : Int32) (a2 : Int32) (h : AH) (K : Int32 → AH → Prop) : Prop :=
  (isO h a0 2) ∧ wX4_has a0 a1 h (fun r2 h1 => ((r2 = nI 0 → K (nI 0) h1) ∧ (¬ r2 = nI 0 → (isO h1 a0 2) ∧ wX4_has a0 a2 h1 (fun r5 h4 => ((r5 = nI 0 → K (nI 0) h4) ∧ (¬ r5 = nI 0 → (isO h4 a0 2) ∧ (isA h4 (mR h4 a0 10) 8) ∧ (nZ ≤ (mR h4 a0 10)) ∧ (vp_in a2 (ln h4 (mR h4 a0 10))) ∧ (isA h4 (mR h4 (mR h4 a0 10) a2.toNatClampNeg) 0) ∧ (vp_in a1 (ln h4 (mR h4 (mR h4 a0 10) a2.toNatClampNeg))) ∧ K (mI h4 (mR h4 (mR h4 a0 10) a2.toNatClampNeg) a1.toNatClampNeg) h4))))))
def wX7_canSet (a0 : Nat) (a1 : Nat) (h : AH) (K : Int32 → AH → Prop) : Prop :=
  (isO h a0 5) ∧ (isO h a1 6) ∧ (isO h (mR h a0 0) 2) ∧ wX4_routeBlocks (mR h a0 0) (mI h a1 1) (mI h a1 2) h (fun r4 h3 => (isO h3 a1 6) ∧ wX8_isRouted a1 h3 (fun r6 h5 => ((¬ r6 = nI 0 → K (nI 0) h5) ∧ (r6 = nI 0 → ((r4 = nI 0 → K (nI 0) h5) ∧ (¬ r4 = nI 0 → (isO h5 a0 5) ∧ (isO h5 (mR h5 a0 0) 2) ∧ wX7_held a0 h5 (fun r12 h11 => ((¬ (r4 &&& (mI h5 (mR h5 a0 0) 3 ||| r12)) = nI 0 → K (nI 0) h11) ∧ ((r4 &&& (mI h5 (mR h5 a0 0) 3 ||| r12)) = nI 0 → K (nI 1) h11)))))))))
def wX7_leaveQueue_L4 (K : AH → Prop)   : Nat → Nat → Int32 → Int32 → Int32 → AH → Prop
  | 0 => fun _ _ _ _ _ => False
  | n + 1 => fun x0 x1 x2 x3 h =>
  (isO h x0 5) ∧ ((mI h x0 4 ≤ x3 → ∀ h3, h3 = uI h x0 4 x2 → K h3) ∧ (¬ mI h x0 4 ≤ x3 → (isA h (mR h x0 2) 0) ∧ (vp_in x3 (ln h (mR h x0 2))) ∧ ((mI h (mR h x0 2) x3.toNatClampNeg = x1 → wX7_leaveQueue_L4 K   n x0 x1 x2 (x3 + (nI 1)) h) ∧ (¬ mI h (mR h x0 2) x3.toNatClampNeg = x1 → (nZ ≤ (mR h x0 2)) ∧ (vp_in x2 (ln h (mR h x0 2))) ∧ ∀ h9, h9 = uI h (mR h x0 2) x2.toNatClampNeg (mI h (mR h x0 2) x3.toNatClampNeg) → wX7_leaveQueue_L4 K   n x0 x1 (x2 + (nI 1)) (x3 + (nI 1)) h9))))
def wX7_leaveQueue (a0 : Nat) (a1 : Int32) (h : AH) (K : AH → Prop) : Prop :=
  (∃ n10, wX7_leaveQueue_L4 K  n10 a0 a1 (nI 0) (nI 0) h)
def wX4_turnForRoute_L5 (K : AH → Prop)   : Nat → Nat → Int32 → Int32 → Int32 → AH → Prop
  | 0 => fun _ _ _ _ _ => False
  | n + 1 => fun x0 x2 x3 x4 h =>
  (((nI 12) ≤ x4 → K h) ∧ (¬ (nI 12) ≤ x4 → (isO h x0 2) ∧ wX4_has x0 x3 h (fun r3 h2 => ((r3 = nI 0 → K h2) ∧ (¬ r3 = nI 0 → (isO h2 x0 2) ∧ wX4_has x0 x2 h2 (fun r6 h5 => ((r6 = nI 0 → K h5) ∧ (¬ r6 = nI 0 → ((x3 = x2 → K h5) ∧ (¬ x3 = x2 → (isO h5 x0 2) ∧ (isA h5 (mR h5 x0 9) 8) ∧ (nZ ≤ (mR h5 x0 9)) ∧ (vp_in x2 (ln h5 (mR h5 x0 9))) ∧ (isA h5 (mR h5 (mR h5 x0 9) x2.toNatClampNeg) 0) ∧ (vp_in x3 (ln h5 (mR h5 (mR h5 x0 9) x2.toNatClampNeg))) ∧ ∀ v15 : Int32, v15 = mI h5 (mR h5 (mR h5 x0 9) x2.toNatClampNeg) x3.toNatClampNeg → (isA h5 (mR h5 x0 6) 0) ∧ (vp_in x3 (ln h5 (mR h5 x0 6))) ∧ ((¬ mI h5 (mR h5 x0 6) x3.toNatClampNeg = v15 → (isA h5 (mR h5 x0 7) 0) ∧ (vp_in x3 (ln h5 (mR h5 x0 7))) ∧ ((¬ mI h5 (mR h5 x0 7) x3.toNatClampNeg = v15 → wX4_turnForRoute_L5 K   n x0 x2 v15 (x4 + (nI 1)) h5) ∧ (mI h5 (mR h5 x0 7) x3.toNatClampNeg = v15 → ∀ h23, h23 = uI h5 x0 4 (mI h5 x0 4 ||| ((nI 1) <<< (x3 &&& nI 31))) → wX4_turnForRoute_L5 K   n x0 x2 v15 (x4 + (nI 1)) h23))) ∧ (mI h5 (mR h5 x0 6) x3.toNatClampNeg = v15 → ∀ h24, h24 = uI h5 x0 4 (mI h5 x0 4 &&& (((nI 1) <<< (x3 &&& nI 31)) ^^^ (-1))) → wX4_turnForRoute_L5 K   n x0 x2 v15 (x4 + (nI 1)) h24))))))))))))
def wX4_turnForRoute (a0 : Nat) (a1 : Int32) (a2 : Int32) (h : AH) (K : AH → Prop) : Prop :=
  (∃ n27, wX4_turnForRoute_L5 K  n27 a0 a2 a1 (nI 0) h)
def wX4_exitOf (a0 : Nat) (a1 : Int32) (h : AH) (K : Int32 → AH → Prop) : Prop :=
  (isO h a0 2) ∧ wX4_has a0 a1 h (fun r2 h1 => ((¬ r2 = nI 0 → (isO h1 a0 2) ∧ wX9_contains (mI h1 a0 4) a1 h1 (fun r6 h5 => ((r6 = nI 0 → (isO h5 a0 2) ∧ (isA h5 (mR h5 a0 6) 0) ∧ (vp_in a1 (ln h5 (mR h5 a0 6))) ∧ K (mI h5 (mR h5 a0 6) a1.toNatClampNeg) h5) ∧ (¬ r6 = nI 0 → (isO h5 a0 2) ∧ (isA h5 (mR h5 a0 7) 0) ∧ (vp_in a1 (ln h5 (mR h5 a0 7))) ∧ K (mI h5 (mR h5 a0 7) a1.toNatClampNeg) h5)))) ∧ (r2 = nI 0 → K (-1) h1)))
def wX4_lengthOf (a0 : Nat) (a1 : Int32) (h : AH) (K : Int32 → AH → Prop) : Prop :=
  (isO h a0 2) ∧ wX4_has a0 a1 h (fun r2 h1 => ((r2 = nI 0 → K (nI 0) h1) ∧ (¬ r2 = nI 0 → (isO h1 a0 2) ∧ (isA h1 (mR h1 a0 5) 0) ∧ (vp_in a1 (ln h1 (mR h1 a0 5))) ∧ K (mI h1 (mR h1 a0 5) a1.toNatClampNeg) h1)))
def wX7_reserveRoute (a0 : Nat) (a1 : Nat) (h : AH) (K : AH → Prop) : Prop :=
  (isO h a0 5) ∧ (isO h a1 6) ∧ (isO h (mR h a0 0) 2) ∧ wX4_turnForRoute (mR h a0 0) (mI h a1 1) (mI h a1 2) h (fun h3 => (isO h3 a0 5) ∧ (isO h3 a1 6) ∧ (isO h3 (mR h3 a0 0) 2) ∧ wX4_routeBlocks (mR h3 a0 0) (mI h3 a1 1) (mI h3 a1 2) h3 (fun r8 h7 => (isO h7 a1 6) ∧ ∀ h10, h10 = uI h7 a1 3 r8 → (isO h7 a0 5) ∧ (isO h7 (mR h7 a0 0) 2) ∧ wX4_exitOf (mR h7 a0 0) (mI h10 a1 1) h10 (fun r13 h12 => (isO h12 (mR h7 a0 0) 2) ∧ wX4_lengthOf (mR h7 a0 0) r13 h12 (fun r15 h14 => (isO h14 a1 6) ∧ ∀ h17, h17 = uI h14 a1 4 (mI h10 a0 7 + r15) → K h17))))
def wX4_totalLength_L4 (K : Int32 → AH → Prop)   : Nat → Nat → Int32 → Int32 → Int32 → AH → Prop
  | 0 => fun _ _ _ _ _ => False
  | n + 1 => fun x0 x1 x2 x3 h =>
  (isO h x0 2) ∧ ((mI h x0 0 ≤ x3 → K x2 h) ∧ (¬ mI h x0 0 ≤ x3 → wX9_contains x1 x3 h (fun r4 h3 => ((r4 = nI 0 → wX4_totalLength_L4 K   n x0 x1 x2 (x3 + (nI 1)) h3) ∧ (¬ r4 = nI 0 → (isO h3 x0 2) ∧ (isA h3 (mR h3 x0 5) 0) ∧ (vp_in x3 (ln h3 (mR h3 x0 5))) ∧ ∀ v9 : Int32, v9 = (x2 + mI h3 (mR h3 x0 5) x3.toNatClampNeg) → wX4_totalLength_L4 K   n x0 x1 v9 (x3 + (nI 1)) h3)))))
def wX4_totalLength (a0 : Nat) (a1 : Int32) (h : AH) (K : Int32 → AH → Prop) : Prop :=
  (∃ n11, wX4_totalLength_L4 K  n11 a0 a1 (nI 0) (nI 0) h)
def wX7_grantRoute (a0 : Nat) (a1 : Int32) (h : AH) (K : Int32 → AH → Prop) : Prop :=
  (isO h a0 5) ∧ wX7_find a0 a1 h (fun r2 h1 => ((r2 = 0 → K (-4) h1) ∧ (¬ r2 = 0 → (isO h1 r2 6) ∧ wX8_isRouted r2 h1 (fun r5 h4 => ((r5 = nI 0 → (isO h4 a0 5) ∧ wX7_canSet a0 r2 h4 (fun r8 h7 => ((¬ r8 = nI 0 → (isO h7 a0 5) ∧ wX7_leaveQueue a0 a1 h7 (fun h10 => (isO h10 a0 5) ∧ wX7_reserveRoute a0 r2 h10 (fun h12 => (isO h12 a0 5) ∧ (isO h12 r2 6) ∧ (isO h12 (mR h12 a0 0) 2) ∧ wX4_totalLength (mR h12 a0 0) (mI h12 r2 3) h12 (fun r17 h16 => K r17 h16)))) ∧ (r8 = nI 0 → K (-5) h7)))) ∧ (¬ r5 = nI 0 → K (-3) h4))))))
def wX4_nextOnRoute (a0 : Nat) (a1 : Int32) (a2 : Int32) (h : AH) (K : Int32 → AH → Prop) : Prop :=
  (isO h a0 2) ∧ wX4_has a0 a1 h (fun r2 h1 => ((r2 = nI 0 → K (-1) h1) ∧ (¬ r2 = nI 0 → (isO h1 a0 2) ∧ wX4_has a0 a2 h1 (fun r5 h4 => ((r5 = nI 0 → K (-1) h4) ∧ (¬ r5 = nI 0 → (isO h4 a0 2) ∧ (isA h4 (mR h4 a0 9) 8) ∧ (nZ ≤ (mR h4 a0 9)) ∧ (vp_in a2 (ln h4 (mR h4 a0 9))) ∧ (isA h4 (mR h4 (mR h4 a0 9) a2.toNatClampNeg) 0) ∧ (vp_in a1 (ln h4 (mR h4 (mR h4 a0 9) a2.toNatClampNeg))) ∧ K (mI h4 (mR h4 (mR h4 a0 9) a2.toNatClampNeg) a1.toNatClampNeg) h4))))))
def wX7_firstNotFree_L32 (K : Int32 → AH → Prop)   : Nat → Nat → Nat → Int32 → Int32 → Int32 → AH → Prop
  | 0 => fun _ _ _ _ _ _ => False
  | n + 1 => fun x0 x1 x2 x3 x4 h =>
  (((nI 12) ≤ x4 → K (-1) h) ∧ (¬ (nI 12) ≤ x4 → ((x3 = (-1) → K (-1) h) ∧ (¬ x3 = (-1) → wX9_contains x2 x3 h (fun r12 h11 => ((r12 = nI 0 → (isO h11 x0 5) ∧ (isO h11 x1 6) ∧ (isO h11 (mR h11 x0 0) 2) ∧ wX4_nextOnRoute (mR h11 x0 0) x3 (mI h11 x1 2) h11 (fun r17 h16 => wX7_firstNotFree_L32 K   n x0 x1 x2 r17 (x4 + (nI 1)) h16)) ∧ (¬ r12 = nI 0 → K x3 h11)))))))
def wX7_firstNotFree (a0 : Nat) (a1 : Nat) (h : AH) (K : Int32 → AH → Prop) : Prop :=
  (isO h a0 5) ∧ (isO h (mR h a0 0) 2) ∧ wX7_held a0 h (fun r4 h3 => (isO h3 a0 5) ∧ (isO h3 a1 6) ∧ (isO h3 (mR h3 a0 0) 2) ∧ wX4_nextOnRoute (mR h3 a0 0) (mI h3 a1 1) (mI h3 a1 2) h3 (fun r8 h7 => (∃ n19, wX7_firstNotFree_L32 K  n19 a0 a1 (mI h (mR h a0 0) 3 ||| r4) r8 (nI 0) h7)))
def wX7_stateOf (a0 : Nat) (a1 : Int32) (h : AH) (K : Int32 → AH → Prop) : Prop :=
  (isO h a0 5) ∧ (isO h (mR h a0 0) 2) ∧ wX9_contains (mI h (mR h a0 0) 3) a1 h (fun r4 h3 => ((r4 = nI 0 → (isO h3 a0 5) ∧ wX7_isReserved a0 a1 h3 (fun r7 h6 => ((r7 = nI 0 → (isO h6 a0 5) ∧ wX7_held a0 h6 (fun r10 h9 => wX9_contains r10 a1 h9 (fun r12 h11 => ((r12 = nI 0 → K (nI 102) h11) ∧ (¬ r12 = nI 0 → K (nI 111) h11))))) ∧ (¬ r7 = nI 0 → K (nI 114) h6)))) ∧ (¬ r4 = nI 0 → K (nI 115) h3)))
def wX9_recordRefusal_J41 (K : AH → Prop)  (y0 : Nat) (y1 : Int32) (h : AH) : Prop :=
  (isO h y0 0) ∧ (narrow .char (.int y1) = .int y1) ∧ (fits .char (.int y1) = true) ∧ ∀ h11, h11 = uI h y0 8 y1 → K h11
def wX9_recordRefusal (a0 : Nat) (a1 : Nat) (h : AH) (K : AH → Prop) : Prop :=
  ((a1 = 0 → K h) ∧ (¬ a1 = 0 → (isO h a0 0) ∧ (isO h (mR h a0 0) 5) ∧ wX7_firstNotFree (mR h a0 0) a1 h (fun r4 h3 => (isO h3 a0 0) ∧ ∀ h6, h6 = uI h3 a0 9 r4 → ((¬ mI h6 a0 9 = (-1) → (isO h3 (mR h3 a0 0) 5) ∧ wX7_stateOf (mR h3 a0 0) (mI h6 a0 9) h6 (fun r9 h8 => (wX9_recordRefusal_J41 K a0 r9 h8))) ∧ (mI h6 a0 9 = (-1) → (wX9_recordRefusal_J41 K a0 (nI 110) h6))))))
def wX9_grantOrRecord (a0 : Nat) (a1 : Int32) (h : AH) (K : Int32 → AH → Prop) : Prop :=
  (isO h a0 0) ∧ (isO h (mR h a0 0) 5) ∧ wX7_grantRoute (mR h a0 0) a1 h (fun r3 h2 => ((¬ r3 = (-5) → K r3 h2) ∧ (r3 = (-5) → (isO h2 a0 0) ∧ (isO h2 (mR h2 a0 0) 5) ∧ wX7_find (mR h2 a0 0) a1 h2 (fun r7 h6 => (isO h6 a0 0) ∧ wX9_recordRefusal a0 r7 h6 (fun h8 => K r3 h8)))))
def wX9_setRoute (a0 : Nat) (a1 : Int32) (h : AH) (K : Int32 → AH → Prop) (T : String → AH → Prop) : Prop :=
  (isO h a0 0) ∧ (isO h (mR h a0 3) 1) ∧ wX2_keep (mR h a0 3) (mR h a0 0) h (fun h2 => (isO h2 a0 0) ∧ wX9_grantOrRecord a0 a1 h2 (fun r5 h4 => (isO h4 a0 0) ∧ wX9_settle a0 r5 h4 (fun r7 h6 => K r7 h6) T))
def wX7_withdrawRoute (a0 : Nat) (a1 : Int32) (h : AH) (K : Int32 → AH → Prop) : Prop :=
  (isO h a0 5) ∧ wX7_find a0 a1 h (fun r2 h1 => ((r2 = 0 → K (-4) h1) ∧ (¬ r2 = 0 → (isO h1 r2 6) ∧ wX8_isRouted r2 h1 (fun r5 h4 => ((¬ r5 = nI 0 → (isO h4 r2 6) ∧ ∀ h8, h8 = uI h4 r2 3 (nI 0) → (isO h4 a0 5) ∧ wX7_joinQueue a0 a1 h8 (fun h9 => (isO h9 a0 5) ∧ K (mI h9 a0 4) h9)) ∧ (r5 = nI 0 → K (-3) h4))))))
def wX9_releaseRoute (a0 : Nat) (a1 : Int32) (h : AH) (K : Int32 → AH → Prop) (T : String → AH → Prop) : Prop :=
  (isO h a0 0) ∧ (isO h (mR h a0 3) 1) ∧ wX2_keep (mR h a0 3) (mR h a0 0) h (fun h2 => (isO h2 a0 0) ∧ (isO h2 (mR h2 a0 0) 5) ∧ wX7_withdrawRoute (mR h2 a0 0) a1 h2 (fun r6 h5 => (isO h5 a0 0) ∧ wX9_settle a0 r6 h5 (fun r8 h7 => K r8 h7) T))
def wX7_enterNext (a0 : Nat) (a1 : Nat) (h : AH) (K : AH → Prop) : Prop :=
  (isO h a0 5) ∧ (isO h a1 6) ∧ (isO h (mR h a0 0) 2) ∧ wX4_exitOf (mR h a0 0) (mI h a1 1) h (fun r4 h3 => (isO h3 a1 6) ∧ ∀ h6, h6 = uI h3 a1 1 r4 → ∀ h7, h7 = uI h6 a1 3 (mI h6 a1 3 &&& (((nI 1) <<< (r4 &&& nI 31)) ^^^ (-1))) → (isO h3 a0 5) ∧ (isO h3 (mR h3 a0 0) 2) ∧ wX4_exitOf (mR h3 a0 0) r4 h7 (fun r10 h9 => (isO h9 (mR h3 a0 0) 2) ∧ wX4_lengthOf (mR h3 a0 0) r10 h9 (fun r12 h11 => (isO h11 a1 6) ∧ ∀ h14, h14 = uI h11 a1 4 (mI h7 a0 7 + r12) → K h14)))
def wX7_removeArrived_L4 (K : AH → Prop)   : Nat → Nat → Int32 → Int32 → AH → Prop
  | 0 => fun _ _ _ _ => False
  | n + 1 => fun x0 x1 x2 h =>
  (isO h x0 5) ∧ ((mI h x0 3 ≤ x2 → ∀ h3, h3 = uI h x0 3 x1 → K h3) ∧ (¬ mI h x0 3 ≤ x2 → (isA h (mR h x0 1) 6) ∧ (vp_in x2 (ln h (mR h x0 1))) ∧ (isO h (mR h (mR h x0 1) x2.toNatClampNeg) 6) ∧ ((¬ mI h (mR h (mR h x0 1) x2.toNatClampNeg) 1 = mI h (mR h (mR h x0 1) x2.toNatClampNeg) 2 → (vp_in x1 (ln h (mR h x0 1))) ∧ (isO h (mR h (mR h x0 1) x1.toNatClampNeg) 6) ∧ (nZ ≤ (mR h x0 1)) ∧ ∀ h11, h11 = uR h (mR h x0 1) x2.toNatClampNeg (mR h (mR h x0 1) x1.toNatClampNeg) → (isA h (mR h11 x0 1) 6) ∧ (nZ ≤ (mR h11 x0 1)) ∧ (vp_in x1 (ln h (mR h11 x0 1))) ∧ ∀ h15, h15 = uR h11 (mR h11 x0 1) x1.toNatClampNeg (mR h (mR h x0 1) x2.toNatClampNeg) → wX7_removeArrived_L4 K   n x0 (x1 + (nI 1)) (x2 + (nI 1)) h15) ∧ (mI h (mR h (mR h x0 1) x2.toNatClampNeg) 1 = mI h (mR h (mR h x0 1) x2.toNatClampNeg) 2 → ∀ h16, h16 = uI h x0 6 (mI h x0 6 + (nI 1)) → wX7_removeArrived_L4 K   n x0 x1 (x2 + (nI 1)) h16))))
def wX7_removeArrived (a0 : Nat) (h : AH) (K : AH → Prop) : Prop :=
  (∃ n17, wX7_removeArrived_L4 K  n17 a0 (nI 0) (nI 0) h)
def wX7_considerQueue_J43 (K : AH → Prop) (c4 : Nat → Int32 → Int32 → AH → Prop) (x0 : Nat) (x1 : Int32) (x2 : Int32) (x3 : Nat) (h : AH) : Prop :=
  ((x3 = 0 → c4 x0 x1 (x2 + (nI 1)) h) ∧ (¬ x3 = 0 → (isO h x3 6) ∧ ∀ h11, h11 = uI h x3 5 (mI h x3 5 + (nI 1)) → (isO h x0 5) ∧ ∀ h13, h13 = uL h11 x0 8 (mL h11 x0 8 + 1) → (isA h (mR h x0 2) 0) ∧ (nZ ≤ (mR h x0 2)) ∧ (vp_in x1 (ln h (mR h x0 2))) ∧ ∀ h17, h17 = uI h13 (mR h x0 2) x1.toNatClampNeg (mI h13 x3 0) → c4 x0 (x1 + (nI 1)) (x2 + (nI 1)) h17))
def wX7_considerQueue_L4 (K : AH → Prop)   : Nat → Nat → Int32 → Int32 → AH → Prop
  | 0 => fun _ _ _ _ => False
  | n + 1 => fun x0 x1 x2 h =>
  (isO h x0 5) ∧ ((mI h x0 4 ≤ x2 → ∀ h3, h3 = uI h x0 4 x1 → K h3) ∧ (¬ mI h x0 4 ≤ x2 → (isA h (mR h x0 2) 0) ∧ (vp_in x2 (ln h (mR h x0 2))) ∧ wX7_find x0 (mI h (mR h x0 2) x2.toNatClampNeg) h (fun r7 h6 => ((r7 = 0 → (wX7_considerQueue_J43 K (wX7_considerQueue_L4 K   n) x0 x1 x2 r7 h6)) ∧ (¬ r7 = 0 → (isO h6 x0 5) ∧ wX7_canSet x0 r7 h6 (fun r19 h18 => ((r19 = nI 0 → (wX7_considerQueue_J43 K (wX7_considerQueue_L4 K   n) x0 x1 x2 r7 h18)) ∧ (¬ r19 = nI 0 → (isO h18 x0 5) ∧ wX7_reserveRoute x0 r7 h18 (fun h21 => wX7_considerQueue_L4 K   n x0 x1 (x2 + (nI 1)) h21)))))))))
def wX7_considerQueue (a0 : Nat) (h : AH) (K : AH → Prop) : Prop :=
  (∃ n25, wX7_considerQueue_L4 K  n25 a0 (nI 0) (nI 0) h)
def wX7_passMinute_L12 (K : AH → Prop)   : Nat → Nat → Int32 → AH → Prop
  | 0 => fun _ _ _ => False
  | n + 1 => fun x0 x1 h =>
  (isO h x0 5) ∧ ((mI h x0 3 ≤ x1 → wX7_removeArrived x0 h (fun h5 => (isO h5 x0 5) ∧ wX7_considerQueue x0 h5 (fun h7 => K h7))) ∧ (¬ mI h x0 3 ≤ x1 → (isA h (mR h x0 1) 6) ∧ (vp_in x1 (ln h (mR h x0 1))) ∧ (isO h (mR h (mR h x0 1) x1.toNatClampNeg) 6) ∧ wX8_isRouted (mR h (mR h x0 1) x1.toNatClampNeg) h (fun r13 h12 => ((r13 = nI 0 → wX7_passMinute_L12 K   n x0 (x1 + (nI 1)) h12) ∧ (¬ r13 = nI 0 → (isO h12 x0 5) ∧ (isA h12 (mR h12 x0 1) 6) ∧ (vp_in x1 (ln h12 (mR h12 x0 1))) ∧ (isO h12 (mR h12 (mR h12 x0 1) x1.toNatClampNeg) 6) ∧ ((¬ mI h12 (mR h12 (mR h12 x0 1) x1.toNatClampNeg) 4 = mI h12 x0 7 → wX7_passMinute_L12 K   n x0 (x1 + (nI 1)) h12) ∧ (mI h12 (mR h12 (mR h12 x0 1) x1.toNatClampNeg) 4 = mI h12 x0 7 → wX7_enterNext x0 (mR h12 (mR h12 x0 1) x1.toNatClampNeg) h12 (fun h20 => wX7_passMinute_L12 K   n x0 (x1 + (nI 1)) h20))))))))
def wX7_passMinute (a0 : Nat) (h : AH) (K : AH → Prop) : Prop :=
  (isO h a0 5) ∧ ∀ h2, h2 = uI h a0 7 (mI h a0 7 + (nI 1)) → (∃ n23, wX7_passMinute_L12 K  n23 a0 (nI 0) h2)
def wX7_letPass_L22 (K : Int32 → AH → Prop)   : Nat → Nat → Int32 → Int32 → Int32 → AH → Prop
  | 0 => fun _ _ _ _ _ => False
  | n + 1 => fun x0 x1 x2 x3 h =>
  ((x1 ≤ x3 → (isO h x0 5) ∧ K (mI h x0 6 - x2) h) ∧ (¬ x1 ≤ x3 → (isO h x0 5) ∧ wX7_passMinute x0 h (fun h6 => wX7_letPass_L22 K   n x0 x1 x2 (x3 + (nI 1)) h6)))
def wX7_letPass (a0 : Nat) (a1 : Int32) (h : AH) (K : Int32 → AH → Prop) : Prop :=
  ((a1 < (nI 1) → K (-2) h) ∧ (¬ a1 < (nI 1) → ((a1 ≤ (nI 240) → (isO h a0 5) ∧ (∃ n9, wX7_letPass_L22 K  n9 a0 a1 (mI h a0 6) (nI 0) h)) ∧ (¬ a1 ≤ (nI 240) → K (-2) h))))
def wX9_pass (a0 : Nat) (a1 : Int32) (h : AH) (K : Int32 → AH → Prop) (T : String → AH → Prop) : Prop :=
  (isO h a0 0) ∧ (isO h (mR h a0 3) 1) ∧ wX2_keep (mR h a0 3) (mR h a0 0) h (fun h2 => (isO h2 a0 0) ∧ (isO h2 (mR h2 a0 0) 5) ∧ wX7_letPass (mR h2 a0 0) a1 h2 (fun r6 h5 => (isO h5 a0 0) ∧ wX9_settle a0 r6 h5 (fun r8 h7 => K r8 h7) T))
def wX9_blocks (a0 : Nat) (h : AH) (K : Int32 → AH → Prop) : Prop :=
  (isO h a0 0) ∧ (isO h (mR h a0 0) 5) ∧ (isO h (mR h (mR h a0 0) 0) 2) ∧ K (mI h (mR h (mR h a0 0) 0) 0) h
def wX9_checkBlock (a0 : Nat) (a1 : Int32) (h : AH) (K : AH → Prop) (T : String → AH → Prop) : Prop :=
  (isO h a0 0) ∧ (isO h (mR h a0 0) 5) ∧ (isO h (mR h (mR h a0 0) 0) 2) ∧ wX4_has (mR h (mR h a0 0) 0) a1 h (fun r4 h3 => ((¬ r4 = nI 0 → K h3) ∧ (r4 = nI 0 → T "java/lang/IndexOutOfBoundsException" h3)))
def wX9_blockLength (a0 : Nat) (a1 : Int32) (h : AH) (K : Int32 → AH → Prop) (T : String → AH → Prop) : Prop :=
  (isO h a0 0) ∧ wX9_checkBlock a0 a1 h (fun h1 => (isO h1 a0 0) ∧ (isO h1 (mR h1 a0 0) 5) ∧ (isO h1 (mR h1 (mR h1 a0 0) 0) 2) ∧ wX4_lengthOf (mR h1 (mR h1 a0 0) 0) a1 h1 (fun r6 h5 => K r6 h5)) T
def wX9_blockState (a0 : Nat) (a1 : Int32) (h : AH) (K : Int32 → AH → Prop) (T : String → AH → Prop) : Prop :=
  (isO h a0 0) ∧ wX9_checkBlock a0 a1 h (fun h1 => (isO h1 a0 0) ∧ (isO h1 (mR h1 a0 0) 5) ∧ wX7_stateOf (mR h1 a0 0) a1 h1 (fun r5 h4 => (narrow .char (.int r5) = .int r5) ∧ K r5 h4)) T
def wX7_holderOf_L2 (K : Int32 → AH → Prop)   : Nat → Nat → Int32 → Int32 → AH → Prop
  | 0 => fun _ _ _ _ => False
  | n + 1 => fun x0 x1 x2 h =>
  (isO h x0 5) ∧ ((mI h x0 3 ≤ x2 → K (-1) h) ∧ (¬ mI h x0 3 ≤ x2 → (isA h (mR h x0 1) 6) ∧ (vp_in x2 (ln h (mR h x0 1))) ∧ (isO h (mR h (mR h x0 1) x2.toNatClampNeg) 6) ∧ wX8_held (mR h (mR h x0 1) x2.toNatClampNeg) h (fun r6 h5 => wX9_contains r6 x1 h5 (fun r8 h7 => ((r8 = nI 0 → wX7_holderOf_L2 K   n x0 x1 (x2 + (nI 1)) h7) ∧ (¬ r8 = nI 0 → (isO h7 x0 5) ∧ (isA h7 (mR h7 x0 1) 6) ∧ (vp_in x2 (ln h7 (mR h7 x0 1))) ∧ (isO h7 (mR h7 (mR h7 x0 1) x2.toNatClampNeg) 6) ∧ K (mI h7 (mR h7 (mR h7 x0 1) x2.toNatClampNeg) 0) h7))))))
def wX7_holderOf (a0 : Nat) (a1 : Int32) (h : AH) (K : Int32 → AH → Prop) : Prop :=
  (∃ n15, wX7_holderOf_L2 K  n15 a0 a1 (nI 0) h)
def wX9_trainAt (a0 : Nat) (a1 : Int32) (h : AH) (K : Int32 → AH → Prop) (T : String → AH → Prop) : Prop :=
  (isO h a0 0) ∧ wX9_checkBlock a0 a1 h (fun h1 => (isO h1 a0 0) ∧ (isO h1 (mR h1 a0 0) 5) ∧ wX7_holderOf (mR h1 a0 0) a1 h1 (fun r5 h4 => ((¬ r5 = (-1) → K r5 h4) ∧ (r5 = (-1) → T "java/util/NoSuchElementException" h4)))) T
def wX9_checkPoint (a0 : Nat) (a1 : Int32) (h : AH) (K : AH → Prop) (T : String → AH → Prop) : Prop :=
  (isO h a0 0) ∧ (isO h (mR h a0 0) 5) ∧ (isO h (mR h (mR h a0 0) 0) 2) ∧ wX4_hasPoint (mR h (mR h a0 0) 0) a1 h (fun r4 h3 => ((¬ r4 = nI 0 → K h3) ∧ (r4 = nI 0 → T "java/lang/IndexOutOfBoundsException" h3)))
def wX9_liesLeft (a0 : Nat) (a1 : Int32) (h : AH) (K : Int32 → AH → Prop) (T : String → AH → Prop) : Prop :=
  (isO h a0 0) ∧ wX9_checkPoint a0 a1 h (fun h1 => (isO h1 a0 0) ∧ (isO h1 (mR h1 a0 0) 5) ∧ (isO h1 (mR h1 (mR h1 a0 0) 0) 2) ∧ wX4_pointsLeft (mR h1 (mR h1 a0 0) 0) a1 h1 (fun r6 h5 => (narrow .boolean (.int r6) = .int r6) ∧ K r6 h5)) T
def wX9_lockedBy (a0 : Nat) (a1 : Int32) (h : AH) (K : Int32 → AH → Prop) (T : String → AH → Prop) : Prop :=
  (isO h a0 0) ∧ wX9_checkPoint a0 a1 h (fun h1 => (isO h1 a0 0) ∧ (isO h1 (mR h1 a0 0) 5) ∧ wX7_lockerOf (mR h1 a0 0) a1 h1 (fun r5 h4 => ((¬ r5 = (-1) → K r5 h4) ∧ (r5 = (-1) → T "java/util/NoSuchElementException" h4)))) T
def wX9_checkRoute (a0 : Nat) (a1 : Int32) (a2 : Int32) (h : AH) (K : AH → Prop) (T : String → AH → Prop) : Prop :=
  (isO h a0 0) ∧ wX9_checkBlock a0 a1 h (fun h1 => (isO h1 a0 0) ∧ wX9_checkBlock a0 a2 h1 (fun h3 => ((a1 = a2 → K h3) ∧ (¬ a1 = a2 → (isO h3 a0 0) ∧ (isO h3 (mR h3 a0 0) 5) ∧ (isO h3 (mR h3 (mR h3 a0 0) 0) 2) ∧ wX4_routeBlocks (mR h3 (mR h3 a0 0) 0) a1 a2 h3 (fun r9 h8 => ((¬ r9 = nI 0 → K h8) ∧ (r9 = nI 0 → T "java/util/NoSuchElementException" h8)))))) T) T
def wX9_routeLength (a0 : Nat) (a1 : Int32) (a2 : Int32) (h : AH) (K : Int32 → AH → Prop) (T : String → AH → Prop) : Prop :=
  (isO h a0 0) ∧ wX9_checkRoute a0 a1 a2 h (fun h1 => (isO h1 a0 0) ∧ (isO h1 (mR h1 a0 0) 5) ∧ (isO h1 (mR h1 (mR h1 a0 0) 0) 2) ∧ wX4_routeBlocks (mR h1 (mR h1 a0 0) 0) a1 a2 h1 (fun r6 h5 => (isO h5 (mR h1 (mR h1 a0 0) 0) 2) ∧ wX4_totalLength (mR h1 (mR h1 a0 0) 0) r6 h5 (fun r8 h7 => K r8 h7))) T
def wX4_tryPaths_b (rec : Nat → Int32 → Int32 → Int32 → Int32 → AH → (Int32 → AH → Prop) → Prop) (a0 : Nat) (a1 : Int32) (a2 : Int32) (a3 : Int32) (a4 : Int32) (h : AH) (K : Int32 → AH → Prop) : Prop :=
  ((¬ a1 = a2 → (((nI 12) ≤ a4 → K (nI 1000000) h) ∧ (¬ (nI 12) ≤ a4 → (isO h a0 2) ∧ wX4_hasExit a0 a1 h (fun r4 h3 => ((r4 = nI 0 → K (nI 1000000) h3) ∧ (¬ r4 = nI 0 → wX9_contains a3 a1 h3 (fun r7 h6 => ((r7 = nI 0 → (isO h6 a0 2) ∧ (isA h6 (mR h6 a0 6) 0) ∧ (vp_in a1 (ln h6 (mR h6 a0 6))) ∧ (isA h6 (mR h6 a0 7) 0) ∧ (vp_in a1 (ln h6 (mR h6 a0 7))) ∧ rec a0 (mI h6 (mR h6 a0 6) a1.toNatClampNeg) a2 (a3 ||| ((nI 1) <<< (a1 &&& nI 31))) (a4 + (nI 1)) h6 (fun r15 h14 => (isO h14 a0 2) ∧ wX4_lengthOf a0 (mI h6 (mR h6 a0 6) a1.toNatClampNeg) h14 (fun r17 h16 => ((¬ mI h6 (mR h6 a0 6) a1.toNatClampNeg = mI h6 (mR h6 a0 7) a1.toNatClampNeg → rec a0 (mI h6 (mR h6 a0 7) a1.toNatClampNeg) a2 (a3 ||| ((nI 1) <<< (a1 &&& nI 31))) (a4 + (nI 1)) h16 (fun r20 h19 => (isO h19 a0 2) ∧ wX4_lengthOf a0 (mI h6 (mR h6 a0 7) a1.toNatClampNeg) h19 (fun r22 h21 => K (if (r20 + r22) < (r15 + r17) then (r20 + r22) else (r15 + r17)) h21))) ∧ (mI h6 (mR h6 a0 6) a1.toNatClampNeg = mI h6 (mR h6 a0 7) a1.toNatClampNeg → K (r15 + r17) h16))))) ∧ (¬ r7 = nI 0 → K (nI 1000000) h6))))))))) ∧ (a1 = a2 → K (nI 0) h))
def wX4_tryPaths : Nat → Nat → Int32 → Int32 → Int32 → Int32 → AH → (Int32 → AH → Prop) → Prop
  | 0 => fun _ _ _ _ _ _ _ => False
  | d + 1 => wX4_tryPaths_b (wX4_tryPaths d)
def wX4_shortestPath (a0 : Nat) (a1 : Int32) (a2 : Int32) (h : AH) (K : Int32 → AH → Prop) : Prop :=
  wX4_tryPaths 14 a0 a1 a2 (nI 0) (nI 0) h (fun r2 h1 => ((r2 < (nI 1000000) → K r2 h1) ∧ (¬ r2 < (nI 1000000) → K (-1) h1)))
def wX9_routeLengthByPaths (a0 : Nat) (a1 : Int32) (a2 : Int32) (h : AH) (K : Int32 → AH → Prop) (T : String → AH → Prop) : Prop :=
  (isO h a0 0) ∧ wX9_checkBlock a0 a1 h (fun h1 => (isO h1 a0 0) ∧ wX9_checkBlock a0 a2 h1 (fun h3 => (isO h3 a0 0) ∧ (isO h3 (mR h3 a0 0) 5) ∧ (isO h3 (mR h3 (mR h3 a0 0) 0) 2) ∧ wX4_shortestPath (mR h3 (mR h3 a0 0) 0) a1 a2 h3 (fun r8 h7 => ((¬ r8 = (-1) → K r8 h7) ∧ (r8 = (-1) → T "java/util/NoSuchElementException" h7)))) T) T
def wX4_blockOnRoute_L18 (K : Int32 → AH → Prop)   : Nat → Nat → Int32 → Int32 → Int32 → Int32 → AH → Prop
  | 0 => fun _ _ _ _ _ _ => False
  | n + 1 => fun x0 x2 x3 x4 x5 h =>
  ((x3 ≤ x5 → K x4 h) ∧ (¬ x3 ≤ x5 → (isO h x0 2) ∧ wX4_nextOnRoute x0 x4 x2 h (fun r5 h4 => wX4_blockOnRoute_L18 K   n x0 x2 x3 r5 (x5 + (nI 1)) h4)))
def wX4_blockOnRoute (a0 : Nat) (a1 : Int32) (a2 : Int32) (a3 : Int32) (h : AH) (K : Int32 → AH → Prop) : Prop :=
  ((a3 < nI 0 → K (-1) h) ∧ (¬ a3 < nI 0 → ((a3 < (nI 12) → (∃ n7, wX4_blockOnRoute_L18 K  n7 a0 a2 a3 a1 (nI 0) h)) ∧ (¬ a3 < (nI 12) → K (-1) h))))
def wX9_routeBlock (a0 : Nat) (a1 : Int32) (a2 : Int32) (a3 : Int32) (h : AH) (K : Int32 → AH → Prop) (T : String → AH → Prop) : Prop :=
  (isO h a0 0) ∧ wX9_checkRoute a0 a1 a2 h (fun h1 => (isO h1 a0 0) ∧ (isO h1 (mR h1 a0 0) 5) ∧ (isO h1 (mR h1 (mR h1 a0 0) 0) 2) ∧ wX4_blockOnRoute (mR h1 (mR h1 a0 0) 0) a1 a2 a3 h1 (fun r6 h5 => ((¬ r6 = (-1) → K r6 h5) ∧ (r6 = (-1) → T "java/util/NoSuchElementException" h5)))) T
def wX4_isStem (a0 : Nat) (a1 : Int32) (h : AH) (K : Int32 → AH → Prop) : Prop :=
  (isO h a0 2) ∧ wX4_has a0 a1 h (fun r2 h1 => ((r2 = nI 0 → K (nI 0) h1) ∧ (¬ r2 = nI 0 → (isO h1 a0 2) ∧ (isA h1 (mR h1 a0 6) 0) ∧ (vp_in a1 (ln h1 (mR h1 a0 6))) ∧ (isA h1 (mR h1 a0 7) 0) ∧ (vp_in a1 (ln h1 (mR h1 a0 7))) ∧ ((mI h1 (mR h1 a0 6) a1.toNatClampNeg = mI h1 (mR h1 a0 7) a1.toNatClampNeg → K (nI 0) h1) ∧ (¬ mI h1 (mR h1 a0 6) a1.toNatClampNeg = mI h1 (mR h1 a0 7) a1.toNatClampNeg → K (nI 1) h1)))))
def wX4_countPaths_b (rec : Nat → Int32 → Int32 → Int32 → Int32 → AH → (Int32 → AH → Prop) → Prop) (a0 : Nat) (a1 : Int32) (a2 : Int32) (a3 : Int32) (a4 : Int32) (h : AH) (K : Int32 → AH → Prop) : Prop :=
  ((¬ a1 = a2 → (((nI 12) ≤ a4 → K (nI 0) h) ∧ (¬ (nI 12) ≤ a4 → (isO h a0 2) ∧ wX4_hasExit a0 a1 h (fun r4 h3 => ((r4 = nI 0 → K (nI 0) h3) ∧ (¬ r4 = nI 0 → wX9_contains a3 a1 h3 (fun r7 h6 => ((r7 = nI 0 → (isO h6 a0 2) ∧ (isA h6 (mR h6 a0 6) 0) ∧ (vp_in a1 (ln h6 (mR h6 a0 6))) ∧ rec a0 (mI h6 (mR h6 a0 6) a1.toNatClampNeg) a2 (a3 ||| ((nI 1) <<< (a1 &&& nI 31))) (a4 + (nI 1)) h6 (fun r13 h12 => (isO h12 a0 2) ∧ wX4_isStem a0 a1 h12 (fun r15 h14 => ((r15 = nI 0 → K r13 h14) ∧ (¬ r15 = nI 0 → (isO h14 a0 2) ∧ (isA h14 (mR h14 a0 7) 0) ∧ (vp_in a1 (ln h14 (mR h14 a0 7))) ∧ rec a0 (mI h14 (mR h14 a0 7) a1.toNatClampNeg) a2 (a3 ||| ((nI 1) <<< (a1 &&& nI 31))) (a4 + (nI 1)) h14 (fun r21 h20 => K (r13 + r21) h20)))))) ∧ (¬ r7 = nI 0 → K (nI 0) h6))))))))) ∧ (a1 = a2 → K (nI 1) h))
def wX4_countPaths : Nat → Nat → Int32 → Int32 → Int32 → Int32 → AH → (Int32 → AH → Prop) → Prop
  | 0 => fun _ _ _ _ _ _ _ => False
  | d + 1 => wX4_countPaths_b (wX4_countPaths d)
def wX4_numberOfPaths (a0 : Nat) (a1 : Int32) (a2 : Int32) (h : AH) (K : Int32 → AH → Prop) : Prop :=
  wX4_countPaths 14 a0 a1 a2 (nI 0) (nI 0) h (fun r2 h1 => K r2 h1)
def wX9_paths (a0 : Nat) (a1 : Int32) (a2 : Int32) (h : AH) (K : Int32 → AH → Prop) (T : String → AH → Prop) : Prop :=
  (isO h a0 0) ∧ wX9_checkBlock a0 a1 h (fun h1 => (isO h1 a0 0) ∧ wX9_checkBlock a0 a2 h1 (fun h3 => (isO h3 a0 0) ∧ (isO h3 (mR h3 a0 0) 5) ∧ (isO h3 (mR h3 (mR h3 a0 0) 0) 2) ∧ wX4_numberOfPaths (mR h3 (mR h3 a0 0) 0) a1 a2 h3 (fun r8 h7 => K r8 h7)) T) T
def wX9_trains (a0 : Nat) (h : AH) (K : Int32 → AH → Prop) : Prop :=
  (isO h a0 0) ∧ (isO h (mR h a0 0) 5) ∧ K (mI h (mR h a0 0) 3) h
def wX9_isPresent (a0 : Nat) (a1 : Int32) (h : AH) (K : Int32 → AH → Prop) : Prop :=
  (isO h a0 0) ∧ (isO h (mR h a0 0) 5) ∧ wX7_find (mR h a0 0) a1 h (fun r3 h2 => ((r3 = 0 → K (nI 0) h2) ∧ (¬ r3 = 0 → K (nI 1) h2)))
def wX9_presentTrain (a0 : Nat) (a1 : Int32) (h : AH) (K : Nat → AH → Prop) (T : String → AH → Prop) : Prop :=
  (isO h a0 0) ∧ (isO h (mR h a0 0) 5) ∧ wX7_find (mR h a0 0) a1 h (fun r3 h2 => ((r3 = 0 → T "java/util/NoSuchElementException" h2) ∧ (¬ r3 = 0 → K r3 h2)))
def wX9_blockOf (a0 : Nat) (a1 : Int32) (h : AH) (K : Int32 → AH → Prop) (T : String → AH → Prop) : Prop :=
  (isO h a0 0) ∧ wX9_presentTrain a0 a1 h (fun r2 h1 => (isO h1 r2 6) ∧ K (mI h1 r2 1) h1) T
def wX9_destination (a0 : Nat) (a1 : Int32) (h : AH) (K : Int32 → AH → Prop) (T : String → AH → Prop) : Prop :=
  (isO h a0 0) ∧ wX9_presentTrain a0 a1 h (fun r2 h1 => (isO h1 r2 6) ∧ K (mI h1 r2 2) h1) T
def wX9_hasRoute (a0 : Nat) (a1 : Int32) (h : AH) (K : Int32 → AH → Prop) (T : String → AH → Prop) : Prop :=
  (isO h a0 0) ∧ wX9_presentTrain a0 a1 h (fun r2 h1 => (isO h1 r2 6) ∧ wX8_isRouted r2 h1 (fun r4 h3 => (narrow .boolean (.int r4) = .int r4) ∧ K r4 h3)) T
def wX9_isClear (a0 : Nat) (a1 : Int32) (h : AH) (K : Int32 → AH → Prop) (T : String → AH → Prop) : Prop :=
  (isO h a0 0) ∧ wX9_presentTrain a0 a1 h (fun r3 h2 => (isO h2 (mR h a0 0) 5) ∧ wX7_canSet (mR h a0 0) r3 h2 (fun r5 h4 => (narrow .boolean (.int r5) = .int r5) ∧ K r5 h4)) T
def wX9_routedTrain (a0 : Nat) (a1 : Int32) (h : AH) (K : Nat → AH → Prop) (T : String → AH → Prop) : Prop :=
  (isO h a0 0) ∧ wX9_presentTrain a0 a1 h (fun r2 h1 => (isO h1 r2 6) ∧ wX8_isRouted r2 h1 (fun r4 h3 => ((¬ r4 = nI 0 → K r2 h3) ∧ (r4 = nI 0 → T "java/util/NoSuchElementException" h3)))) T
def wX9_minutesUntilNext (a0 : Nat) (a1 : Int32) (h : AH) (K : Int32 → AH → Prop) (T : String → AH → Prop) : Prop :=
  (isO h a0 0) ∧ wX9_routedTrain a0 a1 h (fun r2 h1 => (isO h1 r2 6) ∧ (isO h1 a0 0) ∧ (isO h1 (mR h1 a0 0) 5) ∧ K (mI h1 r2 4 - mI h1 (mR h1 a0 0) 7) h1) T
def wX7_minutesToGo (a0 : Nat) (a1 : Nat) (h : AH) (K : Int32 → AH → Prop) : Prop :=
  (isO h a1 6) ∧ (isO h a0 5) ∧ (isO h (mR h a0 0) 2) ∧ wX4_exitOf (mR h a0 0) (mI h a1 1) h (fun r4 h3 => (isO h3 (mR h a0 0) 2) ∧ wX4_lengthOf (mR h a0 0) r4 h3 (fun r6 h5 => (isO h5 a0 5) ∧ (isO h5 a1 6) ∧ (isO h5 (mR h5 a0 0) 2) ∧ wX4_totalLength (mR h5 a0 0) (mI h5 a1 3) h5 (fun r10 h9 => K (((mI h a1 4 - mI h a0 7) + r10) - r6) h9)))
def wX9_minutesUntilArrival (a0 : Nat) (a1 : Int32) (h : AH) (K : Int32 → AH → Prop) (T : String → AH → Prop) : Prop :=
  (isO h a0 0) ∧ wX9_routedTrain a0 a1 h (fun r3 h2 => (isO h2 (mR h a0 0) 5) ∧ wX7_minutesToGo (mR h a0 0) r3 h2 (fun r5 h4 => K r5 h4)) T
def wX9_minutesUntilArrivalByPassing_L25 (K : Int32 → AH → Prop) (T : String → AH → Prop)   : Nat → Nat → Int32 → Int32 → Int32 → AH → Prop
  | 0 => fun _ _ _ _ _ => False
  | n + 1 => fun x0 x2 x3 x4 h =>
  (((nI 108) ≤ x4 → K x3 h) ∧ (¬ (nI 108) ≤ x4 → (isO h x0 0) ∧ (isO h (mR h x0 2) 5) ∧ wX7_find (mR h x0 2) x2 h (fun r10 h9 => ((r10 = 0 → K x3 h9) ∧ (¬ r10 = 0 → (isO h9 x0 0) ∧ (isO h9 (mR h9 x0 2) 5) ∧ wX7_passMinute (mR h9 x0 2) h9 (fun h13 => wX9_minutesUntilArrivalByPassing_L25 K T   n x0 x2 (x3 + (nI 1)) (x4 + (nI 1)) h13))))))
def wX9_minutesUntilArrivalByPassing (a0 : Nat) (a1 : Int32) (h : AH) (K : Int32 → AH → Prop) (T : String → AH → Prop) : Prop :=
  (isO h a0 0) ∧ wX9_routedTrain a0 a1 h (fun r2 h1 => (isO h1 r2 6) ∧ (isO h1 a0 0) ∧ (isO h1 (mR h1 a0 2) 5) ∧ wX7_copyFrom (mR h1 a0 2) (mR h1 a0 0) h1 (fun h5 => (∃ n17, wX9_minutesUntilArrivalByPassing_L25 K T  n17 a0 (mI h1 r2 0) (nI 0) (nI 0) h5))) T
def wX9_delay (a0 : Nat) (a1 : Int32) (h : AH) (K : Int32 → AH → Prop) (T : String → AH → Prop) : Prop :=
  (isO h a0 0) ∧ wX9_presentTrain a0 a1 h (fun r2 h1 => (isO h1 r2 6) ∧ K (mI h1 r2 5) h1) T
def wX7_inQueue (a0 : Nat) (a1 : Int32) (h : AH) (K : Int32 → AH → Prop) : Prop :=
  ((a1 < nI 0 → K (-1) h) ∧ (¬ a1 < nI 0 → (isO h a0 5) ∧ ((mI h a0 4 ≤ a1 → K (-1) h) ∧ (¬ mI h a0 4 ≤ a1 → (isA h (mR h a0 2) 0) ∧ (vp_in a1 (ln h (mR h a0 2))) ∧ K (mI h (mR h a0 2) a1.toNatClampNeg) h))))
def wX9_queued (a0 : Nat) (a1 : Int32) (h : AH) (K : Int32 → AH → Prop) (T : String → AH → Prop) : Prop :=
  (isO h a0 0) ∧ (isO h (mR h a0 0) 5) ∧ wX7_inQueue (mR h a0 0) a1 h (fun r3 h2 => ((¬ r3 = (-1) → K r3 h2) ∧ (r3 = (-1) → T "java/util/NoSuchElementException" h2)))
def wX7_routeOf (a0 : Nat) (a1 : Nat) (h : AH) (K : Int32 → AH → Prop) : Prop :=
  (isO h a0 5) ∧ (isO h a1 6) ∧ (isO h (mR h a0 0) 2) ∧ wX4_routeBlocks (mR h a0 0) (mI h a1 1) (mI h a1 2) h (fun r4 h3 => K r4 h3)
def wX7_waits (a0 : Nat) (a1 : Nat) (a2 : Nat) (h : AH) (K : Int32 → AH → Prop) : Prop :=
  (isO h a1 6) ∧ wX8_isRouted a1 h (fun r2 h1 => ((¬ r2 = nI 0 → K (nI 0) h1) ∧ (r2 = nI 0 → (isO h1 a0 5) ∧ wX7_routeOf a0 a1 h1 (fun r5 h4 => (isO h4 a2 6) ∧ wX8_held a2 h4 (fun r7 h6 => (((r5 &&& r7) = nI 0 → K (nI 0) h6) ∧ (¬ (r5 &&& r7) = nI 0 → K (nI 1) h6)))))))
def wX9_waitsFor (a0 : Nat) (a1 : Int32) (a2 : Int32) (h : AH) (K : Int32 → AH → Prop) (T : String → AH → Prop) : Prop :=
  (isO h a0 0) ∧ wX9_presentTrain a0 a1 h (fun r2 h1 => (isO h1 a0 0) ∧ wX9_presentTrain a0 a2 h1 (fun r4 h3 => ((a1 = a2 → K (nI 0) h3) ∧ (¬ a1 = a2 → (isO h3 a0 0) ∧ (isO h3 (mR h3 a0 0) 5) ∧ wX7_waits (mR h3 a0 0) r2 r4 h3 (fun r8 h7 => ((r8 = nI 0 → K (nI 0) h7) ∧ (¬ r8 = nI 0 → K (nI 1) h7)))))) T) T
def wX6_begin (a0 : Nat) (a1 : Int32) (h : AH) (K : AH → Prop) : Prop :=
  (isO h a0 4) ∧ ∀ h2, h2 = uI h a0 0 (if (nI 0) < (if (nI 8) < a1 then (nI 8) else a1) then (if (nI 8) < a1 then (nI 8) else a1) else (nI 0)) → wJ7_fill_53178 (mR h a0 1) (nI 0) h2 (fun h3 => K h3)
def wX6_relate (a0 : Nat) (a1 : Int32) (a2 : Int32) (h : AH) (K : AH → Prop) : Prop :=
  ((a1 < nI 0 → K h) ∧ (¬ a1 < nI 0 → (isO h a0 4) ∧ ((mI h a0 0 ≤ a1 → K h) ∧ (¬ mI h a0 0 ≤ a1 → (isA h (mR h a0 1) 0) ∧ (vp_in a1 (ln h (mR h a0 1))) ∧ (nZ ≤ (mR h a0 1)) ∧ ∀ h7, h7 = uI h (mR h a0 1) a1.toNatClampNeg (mI h (mR h a0 1) a1.toNatClampNeg ||| ((nI 1) <<< (a2 &&& nI 31))) → K h7))))
def wX7_relateWaiting_L20 (K : AH → Prop) (c64 : Nat → Nat → Int32 → AH → Prop)  : Nat → Nat → Nat → Int32 → Int32 → AH → Prop
  | 0 => fun _ _ _ _ _ => False
  | n + 1 => fun x0 x1 x2 x3 h =>
  (isO h x0 5) ∧ ((mI h x0 3 ≤ x3 → c64 x0 x1 x2 h) ∧ (¬ mI h x0 3 ≤ x3 → ((x2 = x3 → wX7_relateWaiting_L20 K c64  n x0 x1 x2 (x3 + (nI 1)) h) ∧ (¬ x2 = x3 → (isA h (mR h x0 1) 6) ∧ (vp_in x2 (ln h (mR h x0 1))) ∧ (vp_in x3 (ln h (mR h x0 1))) ∧ wX7_waits x0 (mR h (mR h x0 1) x2.toNatClampNeg) (mR h (mR h x0 1) x3.toNatClampNeg) h (fun r13 h12 => ((r13 = nI 0 → wX7_relateWaiting_L20 K c64  n x0 x1 x2 (x3 + (nI 1)) h12) ∧ (¬ r13 = nI 0 → (isO h12 x1 4) ∧ wX6_relate x1 x2 x3 h12 (fun h15 => wX7_relateWaiting_L20 K c64  n x0 x1 x2 (x3 + (nI 1)) h15))))))))
def wX7_relateWaiting_L10 (K : AH → Prop)   : Nat → Nat → Nat → Int32 → AH → Prop
  | 0 => fun _ _ _ _ => False
  | n + 1 => fun x0 x1 x2 h =>
  (isO h x0 5) ∧ ((mI h x0 3 ≤ x2 → K h) ∧ (¬ mI h x0 3 ≤ x2 → (∃ n22, wX7_relateWaiting_L20 K (fun x0_18 x1_19 x2_20 h21 => wX7_relateWaiting_L10 K   n x0_18 x1_19 (x2_20 + (nI 1)) h21) n22 x0 x1 x2 (nI 0) h)))
def wX7_relateWaiting (a0 : Nat) (a1 : Nat) (h : AH) (K : AH → Prop) : Prop :=
  (isO h a0 5) ∧ (isO h a1 4) ∧ wX6_begin a1 (mI h a0 3) h (fun h2 => (∃ n23, wX7_relateWaiting_L10 K  n23 a0 a1 (nI 0) h2))
def wX6_enter (a0 : Nat) (a1 : Int32) (h : AH) (K : AH → Prop) : Prop :=
  (isO h a0 4) ∧ ∀ h2, h2 = uI h a0 4 (mI h a0 4 + (nI 1)) → (isA h (mR h a0 2) 0) ∧ (nZ ≤ (mR h a0 2)) ∧ (vp_in a1 (ln h (mR h a0 2))) ∧ ∀ h6, h6 = uI h2 (mR h a0 2) a1.toNatClampNeg (mI h2 a0 4) → (isA h (mR h a0 3) 0) ∧ (nZ ≤ (mR h a0 3)) ∧ (vp_in a1 (ln h (mR h a0 3))) ∧ ∀ h10, h10 = uI h6 (mR h a0 3) a1.toNatClampNeg (mI h6 a0 4) → ∀ h11, h11 = uI h10 a0 5 (mI h10 a0 5 ||| ((nI 1) <<< (a1 &&& nI 31))) → K h11
def wX6_closeSet_L4 (K : AH → Prop)   : Nat → Nat → Int32 → Int32 → Int32 → AH → Prop
  | 0 => fun _ _ _ _ _ => False
  | n + 1 => fun x0 x1 x2 x3 h =>
  (isO h x0 4) ∧ ((mI h x0 0 ≤ x3 → ((x2 ≤ (nI 1) → K h) ∧ (¬ x2 ≤ (nI 1) → ∀ h4, h4 = uI h x0 6 (mI h x0 6 + x2) → K h4))) ∧ (¬ mI h x0 0 ≤ x3 → wX9_contains (mI h x0 5) x3 h (fun r6 h5 => ((r6 = nI 0 → wX6_closeSet_L4 K   n x0 x1 x2 (x3 + (nI 1)) h5) ∧ (¬ r6 = nI 0 → (isO h5 x0 4) ∧ (isA h5 (mR h5 x0 2) 0) ∧ (vp_in x3 (ln h5 (mR h5 x0 2))) ∧ ((mI h5 (mR h5 x0 2) x3.toNatClampNeg < x1 → wX6_closeSet_L4 K   n x0 x1 x2 (x3 + (nI 1)) h5) ∧ (¬ mI h5 (mR h5 x0 2) x3.toNatClampNeg < x1 → ∀ h12, h12 = uI h5 x0 5 (mI h5 x0 5 &&& (((nI 1) <<< (x3 &&& nI 31)) ^^^ (-1))) → wX6_closeSet_L4 K   n x0 x1 (x2 + (nI 1)) (x3 + (nI 1)) h12)))))))
def wX6_closeSet (a0 : Nat) (a1 : Int32) (h : AH) (K : AH → Prop) : Prop :=
  (∃ n13, wX6_closeSet_L4 K  n13 a0 a1 (nI 0) (nI 0) h)
def wX6_search_L30 (rec : Nat → Int32 → Int32 → AH → (AH → Prop) → Prop) (K : AH → Prop)   : Nat → Nat → Int32 → Int32 → Int32 → Int32 → AH → Prop
  | 0 => fun _ _ _ _ _ _ => False
  | n + 1 => fun x0 x1 x2 x3 x4 h =>
  (isO h x0 4) ∧ ((mI h x0 0 ≤ x4 → (isA h (mR h x0 3) 0) ∧ (nZ ≤ (mR h x0 3)) ∧ (vp_in x1 (ln h (mR h x0 3))) ∧ ∀ h14, h14 = uI h (mR h x0 3) x1.toNatClampNeg x3 → (isA h (mR h x0 2) 0) ∧ (vp_in x1 (ln h (mR h x0 2))) ∧ ((¬ x3 = mI h14 (mR h x0 2) x1.toNatClampNeg → K h14) ∧ (x3 = mI h14 (mR h x0 2) x1.toNatClampNeg → wX6_closeSet x0 x3 h14 (fun h18 => K h18)))) ∧ (¬ mI h x0 0 ≤ x4 → (isA h (mR h x0 1) 0) ∧ (vp_in x1 (ln h (mR h x0 1))) ∧ wX9_contains (mI h (mR h x0 1) x1.toNatClampNeg) x4 h (fun r23 h22 => ((r23 = nI 0 → wX6_search_L30 rec K   n x0 x1 x2 x3 (x4 + (nI 1)) h22) ∧ (¬ r23 = nI 0 → (isO h22 x0 4) ∧ (isA h22 (mR h22 x0 2) 0) ∧ (vp_in x4 (ln h22 (mR h22 x0 2))) ∧ ((¬ mI h22 (mR h22 x0 2) x4.toNatClampNeg = nI 0 → wX9_contains (mI h22 x0 5) x4 h22 (fun r30 h29 => ((r30 = nI 0 → wX6_search_L30 rec K   n x0 x1 x2 x3 (x4 + (nI 1)) h29) ∧ (¬ r30 = nI 0 → (isO h29 x0 4) ∧ (isA h29 (mR h29 x0 2) 0) ∧ (vp_in x4 (ln h29 (mR h29 x0 2))) ∧ ∀ v35 : Int32, v35 = (if mI h29 (mR h29 x0 2) x4.toNatClampNeg < x3 then mI h29 (mR h29 x0 2) x4.toNatClampNeg else x3) → wX6_search_L30 rec K   n x0 x1 x2 v35 (x4 + (nI 1)) h29)))) ∧ (mI h22 (mR h22 x0 2) x4.toNatClampNeg = nI 0 → rec x0 x4 (x2 + (nI 1)) h22 (fun h37 => (isO h37 x0 4) ∧ (isA h37 (mR h37 x0 3) 0) ∧ (vp_in x4 (ln h37 (mR h37 x0 3))) ∧ ∀ v42 : Int32, v42 = (if mI h37 (mR h37 x0 3) x4.toNatClampNeg < x3 then mI h37 (mR h37 x0 3) x4.toNatClampNeg else x3) → wX6_search_L30 rec K   n x0 x1 x2 v42 (x4 + (nI 1)) h37))))))))
def wX6_search_b (rec : Nat → Int32 → Int32 → AH → (AH → Prop) → Prop) (a0 : Nat) (a1 : Int32) (a2 : Int32) (h : AH) (K : AH → Prop) : Prop :=
  (((nI 8) ≤ a2 → K h) ∧ (¬ (nI 8) ≤ a2 → (isO h a0 4) ∧ ((a1 < mI h a0 0 → wX6_enter a0 a1 h (fun h4 => (isO h4 a0 4) ∧ (isA h4 (mR h4 a0 2) 0) ∧ (vp_in a1 (ln h4 (mR h4 a0 2))) ∧ (∃ n44, wX6_search_L30 rec K  n44 a0 a1 a2 (mI h4 (mR h4 a0 2) a1.toNatClampNeg) (nI 0) h4))) ∧ (¬ a1 < mI h a0 0 → K h))))
def wX6_search : Nat → Nat → Int32 → Int32 → AH → (AH → Prop) → Prop
  | 0 => fun _ _ _ _ _ => False
  | d + 1 => wX6_search_b (wX6_search d)
def wX6_inCircles_L25 (K : Int32 → AH → Prop)   : Nat → Nat → Int32 → AH → Prop
  | 0 => fun _ _ _ => False
  | n + 1 => fun x0 x1 h =>
  (isO h x0 4) ∧ ((mI h x0 0 ≤ x1 → K (mI h x0 6) h) ∧ (¬ mI h x0 0 ≤ x1 → (isA h (mR h x0 2) 0) ∧ (vp_in x1 (ln h (mR h x0 2))) ∧ ((¬ mI h (mR h x0 2) x1.toNatClampNeg = nI 0 → wX6_inCircles_L25 K   n x0 (x1 + (nI 1)) h) ∧ (mI h (mR h x0 2) x1.toNatClampNeg = nI 0 → wX6_search 10 x0 x1 (nI 0) h (fun h13 => wX6_inCircles_L25 K   n x0 (x1 + (nI 1)) h13)))))
def wX6_inCircles (a0 : Nat) (h : AH) (K : Int32 → AH → Prop) : Prop :=
  (isO h a0 4) ∧ wJ7_fill_53178 (mR h a0 2) (nI 0) h (fun h2 => (isO h2 a0 4) ∧ ∀ h5, h5 = uI h2 a0 4 (nI 0) → ∀ h6, h6 = uI h5 a0 5 (nI 0) → ∀ h7, h7 = uI h6 a0 6 (nI 0) → (∃ n15, wX6_inCircles_L25 K  n15 a0 (nI 0) h7))
def wX9_deadlocked (a0 : Nat) (h : AH) (K : Int32 → AH → Prop) : Prop :=
  (isO h a0 0) ∧ (isO h (mR h a0 0) 5) ∧ wX7_relateWaiting (mR h a0 0) (mR h a0 4) h (fun h2 => (isO h2 a0 0) ∧ (isO h2 (mR h2 a0 4) 4) ∧ wX6_inCircles (mR h2 a0 4) h2 (fun r6 h5 => K r6 h5))
def wX6_inCirclesByPairs_L12 (K : Int32 → AH → Prop) (c54 : Nat → Int32 → AH → Prop)  : Nat → Nat → Int32 → Int32 → AH → Prop
  | 0 => fun _ _ _ _ => False
  | n + 1 => fun x0 x1 x2 h =>
  (isO h x0 4) ∧ ((mI h x0 0 ≤ x2 → c54 x0 x1 h) ∧ (¬ mI h x0 0 ≤ x2 → (isA h (mR h x0 1) 0) ∧ (vp_in x2 (ln h (mR h x0 1))) ∧ wX9_contains (mI h (mR h x0 1) x2.toNatClampNeg) x1 h (fun r8 h7 => ((r8 = nI 0 → wX6_inCirclesByPairs_L12 K c54  n x0 x1 (x2 + (nI 1)) h7) ∧ (¬ r8 = nI 0 → (isO h7 x0 4) ∧ (isA h7 (mR h7 x0 1) 0) ∧ (vp_in x2 (ln h7 (mR h7 x0 1))) ∧ (vp_in x1 (ln h7 (mR h7 x0 1))) ∧ (nZ ≤ (mR h7 x0 1)) ∧ ∀ h15, h15 = uI h7 (mR h7 x0 1) x2.toNatClampNeg (mI h7 (mR h7 x0 1) x2.toNatClampNeg ||| mI h7 (mR h7 x0 1) x1.toNatClampNeg) → wX6_inCirclesByPairs_L12 K c54  n x0 x1 (x2 + (nI 1)) h15)))))
def wX6_inCirclesByPairs_L2 (K : Int32 → AH → Prop) (c60 : Nat → AH → Prop)  : Nat → Nat → Int32 → AH → Prop
  | 0 => fun _ _ _ => False
  | n + 1 => fun x0 x1 h =>
  (isO h x0 4) ∧ ((mI h x0 0 ≤ x1 → c60 x0 h) ∧ (¬ mI h x0 0 ≤ x1 → (∃ n19, wX6_inCirclesByPairs_L12 K (fun x0_16 x1_17 h18 => wX6_inCirclesByPairs_L2 K c60  n x0_16 (x1_17 + (nI 1)) h18) n19 x0 x1 (nI 0) h)))
def wX6_inCirclesByPairs_L64 (K : Int32 → AH → Prop)   : Nat → Nat → Int32 → Int32 → AH → Prop
  | 0 => fun _ _ _ _ => False
  | n + 1 => fun x0 x1 x2 h =>
  (isO h x0 4) ∧ ((mI h x0 0 ≤ x2 → K x1 h) ∧ (¬ mI h x0 0 ≤ x2 → (isA h (mR h x0 1) 0) ∧ (vp_in x2 (ln h (mR h x0 1))) ∧ wX9_contains (mI h (mR h x0 1) x2.toNatClampNeg) x2 h (fun r27 h26 => ((r27 = nI 0 → wX6_inCirclesByPairs_L64 K   n x0 x1 (x2 + (nI 1)) h26) ∧ (¬ r27 = nI 0 → wX6_inCirclesByPairs_L64 K   n x0 (x1 + (nI 1)) (x2 + (nI 1)) h26)))))
def wX6_inCirclesByPairs (a0 : Nat) (h : AH) (K : Int32 → AH → Prop) : Prop :=
  (∃ n30, wX6_inCirclesByPairs_L2 K (fun x0_20 h21 => (∃ n29, wX6_inCirclesByPairs_L64 K  n29 x0_20 (nI 0) (nI 0) h21)) n30 a0 (nI 0) h)
def wX9_deadlockedByPairs (a0 : Nat) (h : AH) (K : Int32 → AH → Prop) : Prop :=
  (isO h a0 0) ∧ (isO h (mR h a0 0) 5) ∧ wX7_relateWaiting (mR h a0 0) (mR h a0 4) h (fun h2 => (isO h2 a0 0) ∧ (isO h2 (mR h2 a0 4) 4) ∧ wX6_inCirclesByPairs (mR h2 a0 4) h2 (fun r6 h5 => K r6 h5))
def wX7_routesMeet (a0 : Nat) (a1 : Nat) (a2 : Nat) (h : AH) (K : Int32 → AH → Prop) : Prop :=
  (isO h a0 5) ∧ wX7_routeOf a0 a1 h (fun r2 h1 => (isO h1 a0 5) ∧ wX7_routeOf a0 a2 h1 (fun r4 h3 => (((r2 &&& r4) = nI 0 → K (nI 0) h3) ∧ (¬ (r2 &&& r4) = nI 0 → K (nI 1) h3))))
def wX9_conflict (a0 : Nat) (a1 : Int32) (a2 : Int32) (h : AH) (K : Int32 → AH → Prop) (T : String → AH → Prop) : Prop :=
  (isO h a0 0) ∧ wX9_presentTrain a0 a1 h (fun r2 h1 => (isO h1 a0 0) ∧ wX9_presentTrain a0 a2 h1 (fun r4 h3 => ((¬ a1 = a2 → (isO h3 a0 0) ∧ (isO h3 (mR h3 a0 0) 5) ∧ wX7_routesMeet (mR h3 a0 0) r2 r4 h3 (fun r8 h7 => (narrow .boolean (.int r8) = .int r8) ∧ K r8 h7)) ∧ (a1 = a2 → T "java/lang/IllegalArgumentException" h3))) T) T
def wX7_relateConflicts_L20 (K : AH → Prop) (c64 : Nat → Nat → Int32 → AH → Prop)  : Nat → Nat → Nat → Int32 → Int32 → AH → Prop
  | 0 => fun _ _ _ _ _ => False
  | n + 1 => fun x0 x1 x2 x3 h =>
  (isO h x0 5) ∧ ((mI h x0 3 ≤ x3 → c64 x0 x1 x2 h) ∧ (¬ mI h x0 3 ≤ x3 → ((x2 = x3 → wX7_relateConflicts_L20 K c64  n x0 x1 x2 (x3 + (nI 1)) h) ∧ (¬ x2 = x3 → (isA h (mR h x0 1) 6) ∧ (vp_in x2 (ln h (mR h x0 1))) ∧ (vp_in x3 (ln h (mR h x0 1))) ∧ wX7_routesMeet x0 (mR h (mR h x0 1) x2.toNatClampNeg) (mR h (mR h x0 1) x3.toNatClampNeg) h (fun r13 h12 => ((r13 = nI 0 → wX7_relateConflicts_L20 K c64  n x0 x1 x2 (x3 + (nI 1)) h12) ∧ (¬ r13 = nI 0 → (isO h12 x1 4) ∧ wX6_relate x1 x2 x3 h12 (fun h15 => wX7_relateConflicts_L20 K c64  n x0 x1 x2 (x3 + (nI 1)) h15))))))))
def wX7_relateConflicts_L10 (K : AH → Prop)   : Nat → Nat → Nat → Int32 → AH → Prop
  | 0 => fun _ _ _ _ => False
  | n + 1 => fun x0 x1 x2 h =>
  (isO h x0 5) ∧ ((mI h x0 3 ≤ x2 → K h) ∧ (¬ mI h x0 3 ≤ x2 → (∃ n22, wX7_relateConflicts_L20 K (fun x0_18 x1_19 x2_20 h21 => wX7_relateConflicts_L10 K   n x0_18 x1_19 (x2_20 + (nI 1)) h21) n22 x0 x1 x2 (nI 0) h)))
def wX7_relateConflicts (a0 : Nat) (a1 : Nat) (h : AH) (K : AH → Prop) : Prop :=
  (isO h a0 5) ∧ (isO h a1 4) ∧ wX6_begin a1 (mI h a0 3) h (fun h2 => (∃ n23, wX7_relateConflicts_L10 K  n23 a0 a1 (nI 0) h2))
def wX6_takeOrLeave_b (rec : Nat → Int32 → Int32 → AH → (Int32 → AH → Prop) → Prop) (a0 : Nat) (a1 : Int32) (a2 : Int32) (h : AH) (K : Int32 → AH → Prop) : Prop :=
  (isO h a0 4) ∧ ((a1 < mI h a0 0 → rec a0 (a1 + (nI 1)) a2 h (fun r4 h3 => (isO h3 a0 4) ∧ (isA h3 (mR h3 a0 1) 0) ∧ (vp_in a1 (ln h3 (mR h3 a0 1))) ∧ ((¬ (mI h3 (mR h3 a0 1) a1.toNatClampNeg &&& a2) = nI 0 → K r4 h3) ∧ ((mI h3 (mR h3 a0 1) a1.toNatClampNeg &&& a2) = nI 0 → rec a0 (a1 + (nI 1)) (a2 ||| ((nI 1) <<< (a1 &&& nI 31))) h3 (fun r10 h9 => ∀ v11 : Int32, v11 = (if r4 < ((nI 1) + r10) then ((nI 1) + r10) else r4) → K v11 h9))))) ∧ (¬ a1 < mI h a0 0 → K (nI 0) h))
def wX6_takeOrLeave : Nat → Nat → Int32 → Int32 → AH → (Int32 → AH → Prop) → Prop
  | 0 => fun _ _ _ _ _ => False
  | d + 1 => wX6_takeOrLeave_b (wX6_takeOrLeave d)
def wX6_mostUnrelated (a0 : Nat) (h : AH) (K : Int32 → AH → Prop) : Prop :=
  wX6_takeOrLeave 10 a0 (nI 0) (nI 0) h (fun r2 h1 => K r2 h1)
def wX9_mostWithoutConflict (a0 : Nat) (h : AH) (K : Int32 → AH → Prop) : Prop :=
  (isO h a0 0) ∧ (isO h (mR h a0 0) 5) ∧ wX7_relateConflicts (mR h a0 0) (mR h a0 4) h (fun h2 => (isO h2 a0 0) ∧ (isO h2 (mR h2 a0 4) 4) ∧ wX6_mostUnrelated (mR h2 a0 4) h2 (fun r6 h5 => K r6 h5))
def wX6_isUnrelated_L2 (K : Int32 → AH → Prop)   : Nat → Nat → Int32 → Int32 → AH → Prop
  | 0 => fun _ _ _ _ => False
  | n + 1 => fun x0 x1 x2 h =>
  (isO h x0 4) ∧ ((mI h x0 0 ≤ x2 → K (nI 1) h) ∧ (¬ mI h x0 0 ≤ x2 → wX9_contains x1 x2 h (fun r4 h3 => ((r4 = nI 0 → wX6_isUnrelated_L2 K   n x0 x1 (x2 + (nI 1)) h3) ∧ (¬ r4 = nI 0 → (isO h3 x0 4) ∧ (isA h3 (mR h3 x0 1) 0) ∧ (vp_in x2 (ln h3 (mR h3 x0 1))) ∧ (((mI h3 (mR h3 x0 1) x2.toNatClampNeg &&& x1) = nI 0 → wX6_isUnrelated_L2 K   n x0 x1 (x2 + (nI 1)) h3) ∧ (¬ (mI h3 (mR h3 x0 1) x2.toNatClampNeg &&& x1) = nI 0 → K (nI 0) h3)))))))
def wX6_isUnrelated (a0 : Nat) (a1 : Int32) (h : AH) (K : Int32 → AH → Prop) : Prop :=
  (∃ n10, wX6_isUnrelated_L2 K  n10 a0 a1 (nI 0) h)
def wX6_mostUnrelatedBySets_L4 (K : Int32 → AH → Prop)   : Nat → Nat → Int32 → Int32 → AH → Prop
  | 0 => fun _ _ _ _ => False
  | n + 1 => fun x0 x1 x2 h =>
  (isO h x0 4) ∧ ((((nI 1) <<< (mI h x0 0 &&& nI 31)) ≤ x2 → K x1 h) ∧ (¬ ((nI 1) <<< (mI h x0 0 &&& nI 31)) ≤ x2 → wX6_isUnrelated x0 x2 h (fun r4 h3 => ((r4 = nI 0 → wX6_mostUnrelatedBySets_L4 K   n x0 x1 (x2 + (nI 1)) h3) ∧ (¬ r4 = nI 0 → wJ6_bitCount_0f7a4 x2 h3 (fun r7 h6 => wX6_mostUnrelatedBySets_L4 K   n x0 (if x1 < r7 then r7 else x1) (x2 + (nI 1)) h6))))))
def wX6_mostUnrelatedBySets (a0 : Nat) (h : AH) (K : Int32 → AH → Prop) : Prop :=
  (∃ n8, wX6_mostUnrelatedBySets_L4 K  n8 a0 (nI 0) (nI 0) h)
def wX9_mostWithoutConflictBySets (a0 : Nat) (h : AH) (K : Int32 → AH → Prop) : Prop :=
  (isO h a0 0) ∧ (isO h (mR h a0 0) 5) ∧ wX7_relateConflicts (mR h a0 0) (mR h a0 4) h (fun h2 => (isO h2 a0 0) ∧ (isO h2 (mR h2 a0 4) 4) ∧ wX6_mostUnrelatedBySets (mR h2 a0 4) h2 (fun r6 h5 => K r6 h5))
def wX9_refusalReason (a0 : Nat) (h : AH) (K : Int32 → AH → Prop) (T : String → AH → Prop) : Prop :=
  (isO h a0 0) ∧ ((¬ mI h a0 8 = nI 0 → (narrow .char (.int (mI h a0 8)) = .int (mI h a0 8)) ∧ K (mI h a0 8) h) ∧ (mI h a0 8 = nI 0 → T "java/util/NoSuchElementException" h))
def wX9_refusalBlock (a0 : Nat) (h : AH) (K : Int32 → AH → Prop) (T : String → AH → Prop) : Prop :=
  (isO h a0 0) ∧ ((¬ mI h a0 9 = (-1) → K (mI h a0 9) h) ∧ (mI h a0 9 = (-1) → T "java/util/NoSuchElementException" h))
def wX9_time (a0 : Nat) (h : AH) (K : Int32 → AH → Prop) : Prop :=
  (isO h a0 0) ∧ (isO h (mR h a0 0) 5) ∧ K (mI h (mR h a0 0) 7) h
def wX9_arrived (a0 : Nat) (h : AH) (K : Int32 → AH → Prop) : Prop :=
  (isO h a0 0) ∧ (isO h (mR h a0 0) 5) ∧ K (mI h (mR h a0 0) 6) h
def wX9_totalDelay (a0 : Nat) (h : AH) (K : Int64 → AH → Prop) : Prop :=
  (isO h a0 0) ∧ (isO h (mR h a0 0) 5) ∧ K (mL h (mR h a0 0) 8) h
def wX9_meanDelay (a0 : Nat) (h : AH) (K : UInt64 → AH → Prop) (T : String → AH → Prop) : Prop :=
  (isO h a0 0) ∧ (isO h (mR h a0 0) 5) ∧ ((¬ mI h (mR h a0 0) 5 = nI 0 → (vf_n64 (FP.ddiv (FP.l2d (mL h (mR h a0 0) 8)) (FP.i2d (mI h (mR h a0 0) 5)))) ∧ K (FP.ddiv (FP.l2d (mL h (mR h a0 0) 8)) (FP.i2d (mI h (mR h a0 0) 5))) h) ∧ (mI h (mR h a0 0) 5 = nI 0 → T "java/lang/ArithmeticException" h))
def wX9_usedShare (a0 : Nat) (h : AH) (K : UInt32 → AH → Prop) (T : String → AH → Prop) : Prop :=
  (isO h a0 0) ∧ (isO h (mR h a0 0) 5) ∧ (isO h (mR h (mR h a0 0) 0) 2) ∧ ((¬ mI h (mR h (mR h a0 0) 0) 0 = nI 0 → wX7_held (mR h a0 0) h (fun r6 h5 => wJ6_bitCount_0f7a4 r6 h5 (fun r8 h7 => (isO h7 a0 0) ∧ (isO h7 (mR h7 a0 0) 5) ∧ (isO h7 (mR h7 (mR h7 a0 0) 0) 2) ∧ (vf_n32 (FP.fdiv (FP.i2f r8) (FP.i2f (mI h7 (mR h7 (mR h7 a0 0) 0) 0)))) ∧ K (FP.fdiv (FP.i2f r8) (FP.i2f (mI h7 (mR h7 (mR h7 a0 0) 0) 0))) h7))) ∧ (mI h (mR h (mR h a0 0) 0) 0 = nI 0 → T "java/lang/ArithmeticException" h))
def wX3_lineIsSound_L4 (K : Int32 → AH → Prop) (c66 : Nat → Int32 → AH → Prop)  : Nat → Nat → Int32 → Int32 → AH → Prop
  | 0 => fun _ _ _ _ => False
  | n + 1 => fun x0 x1 x2 h =>
  (isO h x0 2) ∧ ((mI h x0 0 ≤ x2 → c66 x0 x1 h) ∧ (¬ mI h x0 0 ≤ x2 → wX4_leadsTo x0 x2 x2 h (fun r4 h3 => (isO h3 x0 2) ∧ wX4_lengthOf x0 x2 h3 (fun r6 h5 => ((r6 < (nI 1) → K (nI 0) h5) ∧ (¬ r6 < (nI 1) → (isO h5 x0 2) ∧ wX4_lengthOf x0 x2 h5 (fun r9 h8 => (((nI 9) < r9 → K (nI 0) h8) ∧ (¬ (nI 9) < r9 → ((r4 = nI 0 → (isO h8 x0 2) ∧ wX4_hasExit x0 x2 h8 (fun r13 h12 => ((r13 = nI 0 → wX3_lineIsSound_L4 K c66  n x0 (x1 + (nI 0)) (x2 + (nI 1)) h12) ∧ (¬ r13 = nI 0 → wX3_lineIsSound_L4 K c66  n x0 (x1 + (nI 1)) (x2 + (nI 1)) h12)))) ∧ (¬ r4 = nI 0 → K (nI 0) h8)))))))))))
def wX3_lineIsSound_L70 (K : Int32 → AH → Prop)   : Nat → Nat → Int32 → Int32 → Int32 → AH → Prop
  | 0 => fun _ _ _ _ _ => False
  | n + 1 => fun x0 x1 x2 x3 h =>
  (isO h x0 2) ∧ ((mI h x0 1 ≤ x3 → ∀ v23 : Int32, v23 = (((nI 1) <<< (mI h x0 0 &&& nI 31)) - (nI 1)) → ((¬ x1 = (mI h x0 1 + mI h x0 2) → K (nI 0) h) ∧ (x1 = (mI h x0 1 + mI h x0 2) → ((¬ (mI h x0 4 &&& (x2 ^^^ (-1))) = nI 0 → K (nI 0) h) ∧ ((mI h x0 4 &&& (x2 ^^^ (-1))) = nI 0 → ((¬ (mI h x0 3 &&& (v23 ^^^ (-1))) = nI 0 → K (nI 0) h) ∧ ((mI h x0 3 &&& (v23 ^^^ (-1))) = nI 0 → K (nI 1) h))))))) ∧ (¬ mI h x0 1 ≤ x3 → wX4_stemOf x0 x3 h (fun r29 h28 => (isO h28 x0 2) ∧ wX4_isStem x0 r29 h28 (fun r31 h30 => ((r31 = nI 0 → K (nI 0) h30) ∧ (¬ r31 = nI 0 → wX9_contains x2 r29 h30 (fun r34 h33 => ((r34 = nI 0 → ∀ v36 : Int32, v36 = (x2 ||| ((nI 1) <<< (r29 &&& nI 31))) → wX3_lineIsSound_L70 K   n x0 x1 v36 (x3 + (nI 1)) h33) ∧ (¬ r34 = nI 0 → K (nI 0) h33)))))))))
def wX3_lineIsSound (a0 : Nat) (h : AH) (K : Int32 → AH → Prop) : Prop :=
  (∃ n40, wX3_lineIsSound_L4 K (fun x0_18 x1_19 h20 => (∃ n39, wX3_lineIsSound_L70 K  n39 x0_18 x1_19 (nI 0) (nI 0) h20)) n40 a0 (nI 0) (nI 0) h)
def wX3_trainsAreSound_J73 (K : Int32 → AH → Prop) (c7 : Nat → Int64 → Int32 → Int32 → AH → Prop) (x0 : Nat) (x1 : Int64) (x3 : Int32) (x4 : Int32) (x5 : Nat) (y0 : Int32) (h : AH) : Prop :=
  ((y0 = nI 0 → K (nI 0) h) ∧ (¬ y0 = nI 0 → (isO h x5 6) ∧ ((mI h x5 0 ≤ x3 → K (nI 0) h) ∧ (¬ mI h x5 0 ≤ x3 → ((nI 0 ≤ mI h x5 5 → c7 x0 (x1 + (mI h x5 5).toInt64) (mI h x5 0) (x4 + (nI 1)) h) ∧ (¬ nI 0 ≤ mI h x5 5 → K (nI 0) h))))))
def wX3_trainsAreSound_J72 (K : Int32 → AH → Prop) (c7 : Nat → Int64 → Int32 → Int32 → AH → Prop) (x0 : Nat) (x1 : Int64) (x3 : Int32) (x4 : Int32) (x5 : Nat) (h : AH) : Prop :=
  (wX3_trainsAreSound_J73 K c7 x0 x1 x3 x4 x5 (nI 0) h)
def wX3_trainsAreSound_L7 (K : Int32 → AH → Prop)   : Nat → Nat → Int64 → Int32 → Int32 → AH → Prop
  | 0 => fun _ _ _ _ _ => False
  | n + 1 => fun x0 x1 x3 x4 h =>
  (isO h x0 5) ∧ ((mI h x0 3 ≤ x4 → ((mI h x0 5 ≤ x3 → K (nI 0) h) ∧ (¬ mI h x0 5 ≤ x3 → ((¬ (mI h x0 3 + mI h x0 6) = mI h x0 5 → K (nI 0) h) ∧ ((mI h x0 3 + mI h x0 6) = mI h x0 5 → ((nI 0 < (lg_cmp x1 (mL h x0 8)) → K (nI 0) h) ∧ (¬ nI 0 < (lg_cmp x1 (mL h x0 8)) → K (nI 1) h))))))) ∧ (¬ mI h x0 3 ≤ x4 → (isA h (mR h x0 1) 6) ∧ (vp_in x4 (ln h (mR h x0 1))) ∧ (isO h (mR h (mR h x0 1) x4.toNatClampNeg) 6) ∧ (isO h (mR h x0 0) 2) ∧ wX4_has (mR h x0 0) (mI h (mR h (mR h x0 1) x4.toNatClampNeg) 1) h (fun r10 h9 => ((r10 = nI 0 → (wX3_trainsAreSound_J72 K (wX3_trainsAreSound_L7 K   n) x0 x1 x3 x4 (mR h (mR h x0 1) x4.toNatClampNeg) h9)) ∧ (¬ r10 = nI 0 → (isO h9 x0 5) ∧ (isO h9 (mR h (mR h x0 1) x4.toNatClampNeg) 6) ∧ (isO h9 (mR h9 x0 0) 2) ∧ wX4_has (mR h9 x0 0) (mI h9 (mR h (mR h x0 1) x4.toNatClampNeg) 2) h9 (fun r19 h18 => ((r19 = nI 0 → (wX3_trainsAreSound_J72 K (wX3_trainsAreSound_L7 K   n) x0 x1 x3 x4 (mR h (mR h x0 1) x4.toNatClampNeg) h18)) ∧ (¬ r19 = nI 0 → (isO h18 (mR h (mR h x0 1) x4.toNatClampNeg) 6) ∧ ((mI h18 (mR h (mR h x0 1) x4.toNatClampNeg) 1 = mI h18 (mR h (mR h x0 1) x4.toNatClampNeg) 2 → (wX3_trainsAreSound_J72 K (wX3_trainsAreSound_L7 K   n) x0 x1 x3 x4 (mR h (mR h x0 1) x4.toNatClampNeg) h18)) ∧ (¬ mI h18 (mR h (mR h x0 1) x4.toNatClampNeg) 1 = mI h18 (mR h (mR h x0 1) x4.toNatClampNeg) 2 → (wX3_trainsAreSound_J73 K (wX3_trainsAreSound_L7 K   n) x0 x1 x3 x4 (mR h (mR h x0 1) x4.toNatClampNeg) (nI 1) h18)))))))))))
def wX3_trainsAreSound (a0 : Nat) (h : AH) (K : Int32 → AH → Prop) : Prop :=
  (∃ n25, wX3_trainsAreSound_L7 K  n25 a0 0 (-1) (nI 0) h)
def wX3_blocksAreHeldOnce_L4 (K : Int32 → AH → Prop)   : Nat → Nat → Int32 → Int32 → AH → Prop
  | 0 => fun _ _ _ _ => False
  | n + 1 => fun x0 x1 x2 h =>
  (isO h x0 5) ∧ ((mI h x0 3 ≤ x2 → K (nI 1) h) ∧ (¬ mI h x0 3 ≤ x2 → (isA h (mR h x0 1) 6) ∧ (vp_in x2 (ln h (mR h x0 1))) ∧ (isO h (mR h (mR h x0 1) x2.toNatClampNeg) 6) ∧ wX9_contains (mI h (mR h (mR h x0 1) x2.toNatClampNeg) 3) (mI h (mR h (mR h x0 1) x2.toNatClampNeg) 1) h (fun r7 h6 => (isO h6 (mR h (mR h x0 1) x2.toNatClampNeg) 6) ∧ wX8_held (mR h (mR h x0 1) x2.toNatClampNeg) h6 (fun r9 h8 => ((¬ (x1 &&& r9) = nI 0 → K (nI 0) h8) ∧ ((x1 &&& r9) = nI 0 → (isO h8 x0 5) ∧ (isO h8 (mR h8 x0 0) 2) ∧ (isO h8 (mR h (mR h x0 1) x2.toNatClampNeg) 6) ∧ ((¬ (mI h8 (mR h8 x0 0) 3 &&& mI h8 (mR h (mR h x0 1) x2.toNatClampNeg) 3) = nI 0 → K (nI 0) h8) ∧ ((mI h8 (mR h8 x0 0) 3 &&& mI h8 (mR h (mR h x0 1) x2.toNatClampNeg) 3) = nI 0 → ((r7 = nI 0 → wX8_held (mR h (mR h x0 1) x2.toNatClampNeg) h8 (fun r17 h16 => wX3_blocksAreHeldOnce_L4 K   n x0 (x1 ||| r17) (x2 + (nI 1)) h16)) ∧ (¬ r7 = nI 0 → K (nI 0) h8))))))))))
def wX3_blocksAreHeldOnce (a0 : Nat) (h : AH) (K : Int32 → AH → Prop) : Prop :=
  (∃ n19, wX3_blocksAreHeldOnce_L4 K  n19 a0 (nI 0) (nI 0) h)
def wX3_blocksAhead_L10 (K : Int32 → AH → Prop)   : Nat → Nat → Nat → Int32 → Int32 → Int32 → AH → Prop
  | 0 => fun _ _ _ _ _ _ => False
  | n + 1 => fun x0 x1 x2 x3 x4 h =>
  (((nI 12) ≤ x4 → K x2 h) ∧ (¬ (nI 12) ≤ x4 → (isO h x0 2) ∧ wX4_has x0 x3 h (fun r4 h3 => ((r4 = nI 0 → K x2 h3) ∧ (¬ r4 = nI 0 → (isO h3 x1 6) ∧ ((x3 = mI h3 x1 2 → K x2 h3) ∧ (¬ x3 = mI h3 x1 2 → (isO h3 x0 2) ∧ wX4_exitOf x0 x3 h3 (fun r9 h8 => wX3_blocksAhead_L10 K   n x0 x1 (x2 ||| ((nI 1) <<< (r9 &&& nI 31))) r9 (x4 + (nI 1)) h8))))))))
def wX3_blocksAhead (a0 : Nat) (a1 : Nat) (h : AH) (K : Int32 → AH → Prop) : Prop :=
  (isO h a1 6) ∧ (∃ n12, wX3_blocksAhead_L10 K  n12 a0 a1 (nI 0) (mI h a1 1) (nI 0) h)
def wX3_routesAreSound_J67 (K : Int32 → AH → Prop) (c2 : Nat → Int32 → AH → Prop) (x0 : Nat) (x1 : Int32) (x2 : Nat) (x3 : Int32) (x4 : Int32) (y0 : Int32) (h : AH) : Prop :=
  (isO h x2 6) ∧ wX8_isRouted x2 h (fun r18 h17 => ((r18 = nI 0 → c2 x0 (x1 + (nI 1)) h17) ∧ (¬ r18 = nI 0 → ((y0 = nI 0 → K (nI 0) h17) ∧ (¬ y0 = nI 0 → ((x3 < (nI 1) → K (nI 0) h17) ∧ (¬ x3 < (nI 1) → ((x3 ≤ x4 → c2 x0 (x1 + (nI 1)) h17) ∧ (¬ x3 ≤ x4 → K (nI 0) h17)))))))))
def wX3_routesAreSound_L2 (K : Int32 → AH → Prop)   : Nat → Nat → Int32 → AH → Prop
  | 0 => fun _ _ _ => False
  | n + 1 => fun x0 x1 h =>
  (isO h x0 5) ∧ ((mI h x0 3 ≤ x1 → K (nI 1) h) ∧ (¬ mI h x0 3 ≤ x1 → (isA h (mR h x0 1) 6) ∧ (vp_in x1 (ln h (mR h x0 1))) ∧ (isO h (mR h (mR h x0 1) x1.toNatClampNeg) 6) ∧ ∀ v6 : Int32, v6 = (mI h (mR h (mR h x0 1) x1.toNatClampNeg) 4 - mI h x0 7) → (isO h (mR h x0 0) 2) ∧ wX4_exitOf (mR h x0 0) (mI h (mR h (mR h x0 1) x1.toNatClampNeg) 1) h (fun r9 h8 => (isO h8 (mR h x0 0) 2) ∧ wX4_lengthOf (mR h x0 0) r9 h8 (fun r11 h10 => (isO h10 x0 5) ∧ wX3_blocksAhead (mR h10 x0 0) (mR h (mR h x0 1) x1.toNatClampNeg) h10 (fun r14 h13 => (isO h13 (mR h (mR h x0 1) x1.toNatClampNeg) 6) ∧ ((¬ r14 = mI h13 (mR h (mR h x0 1) x1.toNatClampNeg) 3 → (wX3_routesAreSound_J67 K (wX3_routesAreSound_L2 K   n) x0 x1 (mR h (mR h x0 1) x1.toNatClampNeg) v6 r11 (nI 0) h13)) ∧ (r14 = mI h13 (mR h (mR h x0 1) x1.toNatClampNeg) 3 → (wX3_routesAreSound_J67 K (wX3_routesAreSound_L2 K   n) x0 x1 (mR h (mR h x0 1) x1.toNatClampNeg) v6 r11 (nI 1) h13))))))))
def wX3_routesAreSound (a0 : Nat) (h : AH) (K : Int32 → AH → Prop) : Prop :=
  (∃ n26, wX3_routesAreSound_L2 K  n26 a0 (nI 0) h)
def wX3_queueIsSound_L4 (K : Int32 → AH → Prop) (c38 : Nat → Int32 → AH → Prop)  : Nat → Nat → Int32 → Int32 → AH → Prop
  | 0 => fun _ _ _ _ => False
  | n + 1 => fun x0 x1 x2 h =>
  (isO h x0 5) ∧ ((mI h x0 3 ≤ x2 → c38 x0 x1 h) ∧ (¬ mI h x0 3 ≤ x2 → (isA h (mR h x0 1) 6) ∧ (vp_in x2 (ln h (mR h x0 1))) ∧ (isO h (mR h (mR h x0 1) x2.toNatClampNeg) 6) ∧ wX8_isRouted (mR h (mR h x0 1) x2.toNatClampNeg) h (fun r6 h5 => ((r6 = nI 0 → wX3_queueIsSound_L4 K c38  n x0 (x1 + (nI 0)) (x2 + (nI 1)) h5) ∧ (¬ r6 = nI 0 → wX3_queueIsSound_L4 K c38  n x0 (x1 + (nI 1)) (x2 + (nI 1)) h5)))))
def wX3_queueIsSound_L74 (K : Int32 → AH → Prop) (c102 : Nat → Int32 → Int32 → AH → Prop)  : Nat → Nat → Int32 → Int32 → Int32 → AH → Prop
  | 0 => fun _ _ _ _ _ => False
  | n + 1 => fun x0 x1 x2 x4 h =>
  ((x2 ≤ x4 → c102 x0 x1 x2 h) ∧ (¬ x2 ≤ x4 → (isO h x0 5) ∧ wX7_inQueue x0 x4 h (fun r25 h24 => (isO h24 x0 5) ∧ wX7_inQueue x0 x2 h24 (fun r27 h26 => ((¬ r25 = r27 → wX3_queueIsSound_L74 K c102  n x0 x1 x2 (x4 + (nI 1)) h26) ∧ (r25 = r27 → K (nI 0) h26))))))
def wX3_queueIsSound_L40 (K : Int32 → AH → Prop)   : Nat → Nat → Int32 → Int32 → AH → Prop
  | 0 => fun _ _ _ _ => False
  | n + 1 => fun x0 x1 x2 h =>
  (isO h x0 5) ∧ ((mI h x0 4 ≤ x2 → ((¬ (x1 + mI h x0 4) = mI h x0 3 → K (nI 0) h) ∧ ((x1 + mI h x0 4) = mI h x0 3 → K (nI 1) h))) ∧ (¬ mI h x0 4 ≤ x2 → wX7_inQueue x0 x2 h (fun r16 h15 => (isO h15 x0 5) ∧ wX7_find x0 r16 h15 (fun r18 h17 => ((r18 = 0 → K (nI 0) h17) ∧ (¬ r18 = 0 → (isO h17 r18 6) ∧ wX8_isRouted r18 h17 (fun r21 h20 => ((r21 = nI 0 → (∃ n35, wX3_queueIsSound_L74 K (fun x0_31 x1_32 x2_33 h34 => wX3_queueIsSound_L40 K   n x0_31 x1_32 (x2_33 + (nI 1)) h34) n35 x0 x1 x2 (nI 0) h20)) ∧ (¬ r21 = nI 0 → K (nI 0) h20)))))))))
def wX3_queueIsSound (a0 : Nat) (h : AH) (K : Int32 → AH → Prop) : Prop :=
  (∃ n39, wX3_queueIsSound_L4 K (fun x0_9 x1_10 h11 => (∃ n38, wX3_queueIsSound_L40 K  n38 x0_9 x1_10 (nI 0) h11)) n39 a0 (nI 0) (nI 0) h)
def wX3_hold (a0 : Nat) (h : AH) (K : Int32 → AH → Prop) : Prop :=
  (isO h a0 5) ∧ wX3_lineIsSound (mR h a0 0) h (fun r3 h2 => ((r3 = nI 0 → K (nI 0) h2) ∧ (¬ r3 = nI 0 → wX3_trainsAreSound a0 h2 (fun r6 h5 => ((r6 = nI 0 → K (nI 0) h5) ∧ (¬ r6 = nI 0 → wX3_blocksAreHeldOnce a0 h5 (fun r9 h8 => ((r9 = nI 0 → K (nI 0) h8) ∧ (¬ r9 = nI 0 → wX3_routesAreSound a0 h8 (fun r12 h11 => ((r12 = nI 0 → K (nI 0) h11) ∧ (¬ r12 = nI 0 → wX3_queueIsSound a0 h11 (fun r15 h14 => ((r15 = nI 0 → K (nI 0) h14) ∧ (¬ r15 = nI 0 → K (nI 1) h14)))))))))))))))
def wX9_isConsistent (a0 : Nat) (h : AH) (K : Int32 → AH → Prop) : Prop :=
  (isO h a0 0) ∧ wX3_hold (mR h a0 0) h (fun r3 h2 => (narrow .boolean (.int r3) = .int r3) ∧ K r3 h2)
def wJ8_newLength_cabcc_J21 (K : Int32 → AH → Prop)  (x0 : Int32) (x1 : Int32) (h : AH) : Prop :=
  False
def wJ8_newLength_cabcc (a0 : Int32) (a1 : Int32) (a2 : Int32) (h : AH) (K : Int32 → AH → Prop) : Prop :=
  (((a0 + (if a1 < a2 then a2 else a1)) ≤ (nI 0) → (wJ8_newLength_cabcc_J21 K a0 a1 h)) ∧ (¬ (a0 + (if a1 < a2 then a2 else a1)) ≤ (nI 0) → (((nI 2147483639) < (a0 + (if a1 < a2 then a2 else a1)) → (wJ8_newLength_cabcc_J21 K a0 a1 h)) ∧ (¬ (nI 2147483639) < (a0 + (if a1 < a2 then a2 else a1)) → K (a0 + (if a1 < a2 then a2 else a1)) h))))
def wJ5_newCapacity_0f7a4 (a0 : Nat) (a1 : Int32) (h : AH) (K : Int32 → AH → Prop) : Prop :=
  (isO h a0 8) ∧ (isA h (mR h a0 0) 3) ∧ ∀ v3 : Int32, v3 = ((a1 <<< (mI h a0 1 &&& nI 31)) - nI (ln h (mR h a0 0))) → wJ8_newLength_cabcc (nI (ln h (mR h a0 0))) v3 (nI (ln h (mR h a0 0)) + ((nI 2) <<< (mI h a0 1 &&& nI 31))) h (fun r6 h5 => ((¬ r6 = (nI 2147483647) → (isO h5 a0 8) ∧ K (r6 >>> (mI h5 a0 1 &&& nI 31)) h5) ∧ (r6 = (nI 2147483647) → False)))
def wJ7_copyOf_9075b (a0 : Nat) (a1 : Int32) (h : AH) (K : Nat → AH → Prop) : Prop :=
  (isA h a0 3) ∧ ((¬ a1 = nI (ln h a0) → (¬ a1 < 0) ∧ (a1.toNatClampNeg ≤ 256) ∧ ∀ h5, h5 = nw h 103 a1.toNatClampNeg → (isA h5 a0 3) ∧ (isA h5 (mN h) 3) ∧ (nZ ≤ a0) ∧ (nZ ≤ (mN h)) ∧ (¬ (if a1 < nI (ln h5 a0) then a1 else nI (ln h5 a0)) < 0) ∧ ((nI 0).toNatClampNeg + (if a1 < nI (ln h5 a0) then a1 else nI (ln h5 a0)).toNatClampNeg ≤ ln h5 a0) ∧ ((nI 0).toNatClampNeg + (if a1 < nI (ln h5 a0) then a1 else nI (ln h5 a0)).toNatClampNeg ≤ ln h5 (mN h)) ∧ (∀ i, i < (if a1 < nI (ln h5 a0) then a1 else nI (ln h5 a0)).toNatClampNeg → fits .byte (.int (mI h5 a0 ((nI 0).toNatClampNeg + i))) = true) ∧ ∀ h14, h14 = uA h5 (mN h) (va_cpy (mI h5 a0) (mI h5 (mN h)) (nI 0).toNatClampNeg (nI 0).toNatClampNeg (if a1 < nI (ln h5 a0) then a1 else nI (ln h5 a0)).toNatClampNeg) → K (mN h) h14) ∧ (a1 = nI (ln h a0) → False))
def wJ5_ensureCapacityInternal_d00df (a0 : Nat) (a1 : Int32) (h : AH) (K : AH → Prop) : Prop :=
  (isO h a0 8) ∧ (isA h (mR h a0 0) 3) ∧ ∀ v3 : Int32, v3 = (nI (ln h (mR h a0 0)) >>> (mI h a0 1 &&& nI 31)) → (((a1 - v3) ≤ nI 0 → K h) ∧ (¬ (a1 - v3) ≤ nI 0 → wJ5_newCapacity_0f7a4 a0 a1 h (fun r7 h6 => (isO h6 a0 8) ∧ wJ7_copyOf_9075b (mR h a0 0) (r7 <<< (mI h6 a0 1 &&& nI 31)) h6 (fun r10 h9 => (isO h9 a0 8) ∧ ∀ h12, h12 = uR h9 a0 0 r10 → K h12))))
def wJ5_isLatin1_aae02 (a0 : Nat) (h : AH) (K : Int32 → AH → Prop) : Prop :=
  (((nI 1) = nI 0 → K (nI 0) h) ∧ (¬ (nI 1) = nI 0 → (isO h a0 8) ∧ ((¬ mI h a0 1 = nI 0 → K (nI 0) h) ∧ (mI h a0 1 = nI 0 → K (nI 1) h))))
def wJ5_setLength_d00df_J76 (K : AH → Prop)  (x0 : Nat) (x1 : Int32) (h : AH) : Prop :=
  (isO h x0 8) ∧ ∀ h8, h8 = uI h x0 3 x1 → K h8
def wJ5_setLength_d00df (a0 : Nat) (a1 : Int32) (h : AH) (K : AH → Prop) : Prop :=
  ((nI 0 ≤ a1 → (isO h a0 8) ∧ wJ5_ensureCapacityInternal_d00df a0 a1 h (fun h2 => (isO h2 a0 8) ∧ ((a1 ≤ mI h2 a0 3 → ((mI h2 a0 3 ≤ a1 → (wJ5_setLength_d00df_J76 K a0 a1 h2)) ∧ (¬ mI h2 a0 3 ≤ a1 → ∀ h9, h9 = uI h2 a0 2 (nI 1) → (wJ5_setLength_d00df_J76 K a0 a1 h9)))) ∧ (¬ a1 ≤ mI h2 a0 3 → wJ5_isLatin1_aae02 a0 h2 (fun r11 h10 => ((r11 = nI 0 → False) ∧ (¬ r11 = nI 0 → False))))))) ∧ (¬ nI 0 ≤ a1 → False))
def wJ4_setLength_d00df (a0 : Nat) (a1 : Int32) (h : AH) (K : AH → Prop) : Prop :=
  (isO h a0 8) ∧ wJ5_setLength_d00df a0 a1 h (fun h1 => K h1)
def wJ6_stringSize_0f7a4_L16 (K : Int32 → AH → Prop)   : Nat → Int32 → Int32 → Int32 → Int32 → AH → Prop
  | 0 => fun _ _ _ _ _ => False
  | n + 1 => fun x0 x1 x2 x3 h =>
  (((nI 10) ≤ x3 → K ((nI 10) + x1) h) ∧ (¬ (nI 10) ≤ x3 → ((x0 ≤ x2 → wJ6_stringSize_0f7a4_L16 K   n x0 x1 ((nI 10) * x2) (x3 + (nI 1)) h) ∧ (¬ x0 ≤ x2 → K (x3 + x1) h))))
def wJ6_stringSize_0f7a4 (a0 : Int32) (h : AH) (K : Int32 → AH → Prop) : Prop :=
  ((a0 < nI 0 → (∃ n4, wJ6_stringSize_0f7a4_L16 K  n4 a0 (nI 1) (-10) (nI 1) h)) ∧ (¬ a0 < nI 0 → (∃ n5, wJ6_stringSize_0f7a4_L16 K  n5 (-a0) (nI 0) (-10) (nI 1) h)))
def wJ6_getChars_ba4f3_L22 (K : Int32 → AH → Prop) (c72 : Int32 → Nat → Int32 → Int32 → AH → Prop)  : Nat → Int32 → Nat → Int32 → Int32 → AH → Prop
  | 0 => fun _ _ _ _ _ => False
  | n + 1 => fun x0 x2 x5 x6 h =>
  (((-100) < x0 → c72 x0 x2 x5 x6 h) ∧ (¬ (-100) < x0 → (isA h 15 3) ∧ (vp_in (((x0 / (nI 100)) * (nI 100)) - x0) (ln h 15)) ∧ (isA h x2 3) ∧ (nZ ≤ x2) ∧ (vp_in (x5 + (-1)) (ln h x2)) ∧ ∀ h9, h9 = uI h x2 (x5 + (-1)).toNatClampNeg (vp_nar .byte (mI h 15 (((x0 / (nI 100)) * (nI 100)) - x0).toNatClampNeg)) → (isA h 14 3) ∧ (vp_in (((x0 / (nI 100)) * (nI 100)) - x0) (ln h 14)) ∧ (vp_in ((x5 + (-1)) + (-1)) (ln h x2)) ∧ ∀ h13, h13 = uI h9 x2 ((x5 + (-1)) + (-1)).toNatClampNeg (vp_nar .byte (mI h9 14 (((x0 / (nI 100)) * (nI 100)) - x0).toNatClampNeg)) → wJ6_getChars_ba4f3_L22 K c72  n (x0 / (nI 100)) x2 ((x5 + (-1)) + (-1)) x6 h13))
def wJ6_getChars_ba4f3_J104 (K : Int32 → AH → Prop)  (x2 : Nat) (x5 : Int32) (x6 : Int32) (h : AH) : Prop :=
  ((x6 = nI 0 → K x5 h) ∧ (¬ x6 = nI 0 → (isA h x2 3) ∧ (nZ ≤ x2) ∧ (vp_in (x5 + (-1)) (ln h x2)) ∧ ∀ h30, h30 = uI h x2 (x5 + (-1)).toNatClampNeg (vp_nar .byte (nI 45)) → K (x5 + (-1)) h30))
def wJ6_getChars_ba4f3_J12 (K : Int32 → AH → Prop)  (x0 : Int32) (x2 : Nat) (x5 : Int32) (y0 : Int32) (h : AH) : Prop :=
  ((¬ y0 = nI 0 → (∃ n35, wJ6_getChars_ba4f3_L22 K (fun x0_14 x2_15 x5_16 x6_17 h18 => (isA h18 15 3) ∧ (vp_in (-x0_14) (ln h18 15)) ∧ (isA h18 x2_15 3) ∧ (nZ ≤ x2_15) ∧ (vp_in (x5_16 + (-1)) (ln h18 x2_15)) ∧ ∀ h24, h24 = uI h18 x2_15 (x5_16 + (-1)).toNatClampNeg (vp_nar .byte (mI h18 15 (-x0_14).toNatClampNeg)) → (((-9) ≤ x0_14 → (wJ6_getChars_ba4f3_J104 K x2_15 (x5_16 + (-1)) x6_17 h24)) ∧ (¬ (-9) ≤ x0_14 → (isA h18 14 3) ∧ (vp_in (-x0_14) (ln h18 14)) ∧ (vp_in ((x5_16 + (-1)) + (-1)) (ln h18 x2_15)) ∧ ∀ h34, h34 = uI h24 x2_15 ((x5_16 + (-1)) + (-1)).toNatClampNeg (vp_nar .byte (mI h24 14 (-x0_14).toNatClampNeg)) → (wJ6_getChars_ba4f3_J104 K x2_15 ((x5_16 + (-1)) + (-1)) x6_17 h34)))) n35 x0 x2 x5 y0 h)) ∧ (y0 = nI 0 → (∃ n52, wJ6_getChars_ba4f3_L22 K (fun x0_36 x2_37 x5_38 x6_39 h40 => (isA h40 15 3) ∧ (vp_in (-x0_36) (ln h40 15)) ∧ (isA h40 x2_37 3) ∧ (nZ ≤ x2_37) ∧ (vp_in (x5_38 + (-1)) (ln h40 x2_37)) ∧ ∀ h46, h46 = uI h40 x2_37 (x5_38 + (-1)).toNatClampNeg (vp_nar .byte (mI h40 15 (-x0_36).toNatClampNeg)) → (((-9) ≤ x0_36 → (wJ6_getChars_ba4f3_J104 K x2_37 (x5_38 + (-1)) x6_39 h46)) ∧ (¬ (-9) ≤ x0_36 → (isA h40 14 3) ∧ (vp_in (-x0_36) (ln h40 14)) ∧ (vp_in ((x5_38 + (-1)) + (-1)) (ln h40 x2_37)) ∧ ∀ h51, h51 = uI h46 x2_37 ((x5_38 + (-1)) + (-1)).toNatClampNeg (vp_nar .byte (mI h46 14 (-x0_36).toNatClampNeg)) → (wJ6_getChars_ba4f3_J104 K x2_37 ((x5_38 + (-1)) + (-1)) x6_39 h51)))) n52 (-x0) x2 x5 y0 h)))
def wJ6_getChars_ba4f3 (a0 : Int32) (a1 : Int32) (a2 : Nat) (h : AH) (K : Int32 → AH → Prop) : Prop :=
  ((nI 0 ≤ a0 → (wJ6_getChars_ba4f3_J12 K a0 a2 a1 (nI 0) h)) ∧ (¬ nI 0 ≤ a0 → (wJ6_getChars_ba4f3_J12 K a0 a2 a1 (nI 1) h)))
def wJ5_append_c97b9_J48 (K : Nat → AH → Prop)  (x0 : Nat) (x3 : Int32) (h : AH) : Prop :=
  (isO h x0 8) ∧ ∀ h14, h14 = uI h x0 3 x3 → K x0 h14
def wJ5_append_c97b9 (a0 : Nat) (a1 : Int32) (h : AH) (K : Nat → AH → Prop) : Prop :=
  (isO h a0 8) ∧ wJ6_stringSize_0f7a4 a1 h (fun r3 h2 => (isO h2 a0 8) ∧ wJ5_ensureCapacityInternal_d00df a0 (mI h a0 3 + r3) h2 (fun h4 => (isO h4 a0 8) ∧ wJ5_isLatin1_aae02 a0 h4 (fun r7 h6 => ((r7 = nI 0 → False) ∧ (¬ r7 = nI 0 → (isO h6 a0 8) ∧ wJ6_getChars_ba4f3 a1 (mI h a0 3 + r3) (mR h6 a0 0) h6 (fun r12 h11 => (wJ5_append_c97b9_J48 K a0 (mI h a0 3 + r3) h11)))))))
def wJ4_append_bf812 (a0 : Nat) (a1 : Int32) (h : AH) (K : Nat → AH → Prop) : Prop :=
  (isO h a0 8) ∧ wJ5_append_c97b9 a0 a1 h (fun r2 h1 => K a0 h1)
def wJ1_canEncode_fc78d (a0 : Int32) (h : AH) (K : Int32 → AH → Prop) : Prop :=
  (((nI 255) < a0 → K (nI 0) h) ∧ (¬ (nI 255) < a0 → K (nI 1) h))
def wJ5_append_3fe6f_J56 (K : Nat → AH → Prop)  (x0 : Nat) (x1 : Int32) (h : AH) : Prop :=
  False
def wJ5_append_3fe6f_J45 (K : Nat → AH → Prop)  (x0 : Nat) (x1 : Int32) (h : AH) : Prop :=
  (isO h x0 8) ∧ wJ5_isLatin1_aae02 x0 h (fun r8 h7 => ((r8 = nI 0 → (wJ5_append_3fe6f_J56 K x0 x1 h7)) ∧ (¬ r8 = nI 0 → False)))
def wJ5_append_3fe6f (a0 : Nat) (a1 : Int32) (h : AH) (K : Nat → AH → Prop) : Prop :=
  (isO h a0 8) ∧ wJ5_ensureCapacityInternal_d00df a0 (mI h a0 3 + (nI 1)) h (fun h2 => (isO h2 a0 8) ∧ wJ5_isLatin1_aae02 a0 h2 (fun r5 h4 => ((r5 = nI 0 → (wJ5_append_3fe6f_J45 K a0 a1 h4)) ∧ (¬ r5 = nI 0 → wJ1_canEncode_fc78d a1 h4 (fun r14 h13 => ((r14 = nI 0 → (wJ5_append_3fe6f_J45 K a0 a1 h13)) ∧ (¬ r14 = nI 0 → (isO h13 a0 8) ∧ ∀ h17, h17 = uI h13 a0 3 (mI h13 a0 3 + (nI 1)) → (isA h13 (mR h13 a0 0) 3) ∧ (nZ ≤ (mR h13 a0 0)) ∧ (vp_in (mI h13 a0 3) (ln h13 (mR h13 a0 0))) ∧ ∀ h21, h21 = uI h17 (mR h13 a0 0) (mI h13 a0 3).toNatClampNeg (vp_nar .byte a1.toInt8.toInt32) → K a0 h21)))))))
def wJ4_append_cf468 (a0 : Nat) (a1 : Int32) (h : AH) (K : Nat → AH → Prop) : Prop :=
  (isO h a0 8) ∧ wJ5_append_3fe6f a0 a1 h (fun r2 h1 => K a0 h1)
def wX9_writeRestOfRoute_L7 (K : AH → Prop)   : Nat → Nat → Nat → Int32 → Int32 → AH → Prop
  | 0 => fun _ _ _ _ _ => False
  | n + 1 => fun x0 x1 x2 x3 h =>
  (((nI 12) ≤ x3 → K h) ∧ (¬ (nI 12) ≤ x3 → (isO h x1 6) ∧ ((x2 = mI h x1 2 → K h) ∧ (¬ x2 = mI h x1 2 → (isO h x0 0) ∧ (isO h (mR h x0 0) 5) ∧ (isO h (mR h (mR h x0 0) 0) 2) ∧ wX4_exitOf (mR h (mR h x0 0) 0) x2 h (fun r8 h7 => (isO h7 x0 0) ∧ (isO h7 (mR h7 x0 6) 8) ∧ wJ4_append_cf468 (mR h7 x0 6) (nI 62) h7 (fun r11 h10 => (isO h10 r11 8) ∧ wJ4_append_bf812 r11 r8 h10 (fun r13 h12 => wX9_writeRestOfRoute_L7 K   n x0 x1 r8 (x3 + (nI 1)) h12)))))))
def wX9_writeRestOfRoute (a0 : Nat) (a1 : Nat) (h : AH) (K : AH → Prop) : Prop :=
  (isO h a1 6) ∧ (∃ n17, n17 ≤ 13 ∧ wX9_writeRestOfRoute_L7 K  n17 a0 a1 (mI h a1 1) (nI 0) h)
def wJ5_length_8abf5 (a0 : Nat) (h : AH) (K : Int32 → AH → Prop) : Prop :=
  (isO h a0 8) ∧ K (mI h a0 3) h
def wJ4_length_8abf5 (a0 : Nat) (h : AH) (K : Int32 → AH → Prop) : Prop :=
  (isO h a0 8) ∧ wJ5_length_8abf5 a0 h (fun r2 h1 => K r2 h1)
def wX9_writeTrain_J70 (K : Int32 → AH → Prop) (T : String → AH → Prop)  (x0 : Nat) (h : AH) : Prop :=
  (isO h x0 0) ∧ (isO h (mR h x0 6) 8) ∧ wJ4_length_8abf5 (mR h x0 6) h (fun r26 h25 => K r26 h25)
def wX9_writeTrain (a0 : Nat) (a1 : Int32) (h : AH) (K : Int32 → AH → Prop) (T : String → AH → Prop) : Prop :=
  (isO h a0 0) ∧ wX9_presentTrain a0 a1 h (fun r2 h1 => (isO h1 a0 0) ∧ (isO h1 (mR h1 a0 6) 8) ∧ wJ4_setLength_d00df (mR h1 a0 6) (nI 0) h1 (fun h4 => (isO h4 a0 0) ∧ (isO h4 r2 6) ∧ (isO h4 (mR h4 a0 6) 8) ∧ wJ4_append_bf812 (mR h4 a0 6) (mI h4 r2 0) h4 (fun r9 h8 => (isO h8 r9 8) ∧ wJ4_append_cf468 r9 (nI 64) h8 (fun r11 h10 => (isO h10 r2 6) ∧ (isO h10 r11 8) ∧ wJ4_append_bf812 r11 (mI h10 r2 1) h10 (fun r14 h13 => (isO h13 r2 6) ∧ wX8_isRouted r2 h13 (fun r16 h15 => ((r16 = nI 0 → (isO h15 a0 0) ∧ (isO h15 (mR h15 a0 6) 8) ∧ wJ4_append_cf468 (mR h15 a0 6) (nI 63) h15 (fun r20 h19 => (isO h19 r2 6) ∧ (isO h19 r20 8) ∧ wJ4_append_bf812 r20 (mI h19 r2 2) h19 (fun r23 h22 => (wX9_writeTrain_J70 K T a0 h22)))) ∧ (¬ r16 = nI 0 → (isO h15 a0 0) ∧ wX9_writeRestOfRoute a0 r2 h15 (fun h30 => (wX9_writeTrain_J70 K T a0 h30)))))))))) T
def wX5_append (a0 : Nat) (a1 : Int32) (h : AH) (K : Int32 → AH → Prop) : Prop :=
  (isO h a0 3) ∧ ((mI h a0 1 < (nI 60) → (isA h (mR h a0 0) 4) ∧ (nZ ≤ (mR h a0 0)) ∧ (vp_in (mI h a0 1) (ln h (mR h a0 0))) ∧ ∀ h6, h6 = uI h (mR h a0 0) (mI h a0 1).toNatClampNeg (vp_nar .char a1) → ∀ h7, h7 = uI h6 a0 1 (mI h6 a0 1 + (nI 1)) → K (nI 1) h7) ∧ (¬ mI h a0 1 < (nI 60) → K (nI 0) h))
def wX9_type (a0 : Nat) (a1 : Int32) (h : AH) (K : Int32 → AH → Prop) (T : String → AH → Prop) : Prop :=
  (isO h a0 0) ∧ (isO h (mR h a0 5) 3) ∧ wX5_append (mR h a0 5) a1 h (fun r3 h2 => ((¬ r3 = nI 0 → (isO h2 a0 0) ∧ (isO h2 (mR h2 a0 5) 3) ∧ K (mI h2 (mR h2 a0 5) 1) h2) ∧ (r3 = nI 0 → T "java/lang/IllegalStateException" h2)))
def wJ0_coder_7d493 (a0 : Nat) (h : AH) (K : Int32 → AH → Prop) : Prop :=
  (((nI 1) = nI 0 → K (nI 1) h) ∧ (¬ (nI 1) = nI 0 → (mS h a0 = (20, 0)) ∧ (a0 < nZ) ∧ (narrow .byte (.int (mI h a0 1)) = .int (mI h a0 1)) ∧ K (mI h a0 1) h))
def wJ0_length_8abf5 (a0 : Nat) (h : AH) (K : Int32 → AH → Prop) : Prop :=
  (mS h a0 = (20, 0)) ∧ (a0 < nZ) ∧ (isA h (mR h a0 0) 3) ∧ wJ0_coder_7d493 a0 h (fun r5 h4 => K (nI (ln h (mR h a0 0)) >>> (r5 &&& nI 31)) h4)
def wJ0_isLatin1_aae02 (a0 : Nat) (h : AH) (K : Int32 → AH → Prop) : Prop :=
  (((nI 1) = nI 0 → K (nI 0) h) ∧ (¬ (nI 1) = nI 0 → (mS h a0 = (20, 0)) ∧ (a0 < nZ) ∧ ((¬ mI h a0 1 = nI 0 → K (nI 0) h) ∧ (mI h a0 1 = nI 0 → K (nI 1) h))))
def wJ3_checkIndex_8e157_J9 (K : Int32 → AH → Prop)  (x0 : Int32) (x1 : Int32) (x2 : Nat) (h : AH) : Prop :=
  False
def wJ3_checkIndex_8e157 (a0 : Int32) (a1 : Int32) (a2 : Nat) (h : AH) (K : Int32 → AH → Prop) : Prop :=
  ((a0 < nI 0 → (wJ3_checkIndex_8e157_J9 K a0 a1 a2 h)) ∧ (¬ a0 < nI 0 → ((a0 < a1 → K a0 h) ∧ (¬ a0 < a1 → (wJ3_checkIndex_8e157_J9 K a0 a1 a2 h)))))
def wJ0_checkIndex_df160 (a0 : Int32) (a1 : Int32) (h : AH) (K : AH → Prop) : Prop :=
  ∀ k1 : Nat, k1 = 0 ∨ k1 = 62 → wJ3_checkIndex_8e157 a0 a1 k1 h (fun r3 h2 => K h2)
def wJ1_charAt_3b067 (a0 : Nat) (a1 : Int32) (h : AH) (K : Int32 → AH → Prop) : Prop :=
  (isA h a0 3) ∧ wJ0_checkIndex_df160 a1 (nI (ln h a0)) h (fun h2 => (isA h2 a0 3) ∧ (vp_in a1 (ln h2 a0)) ∧ (narrow .char (.int (((mI h2 a0 a1.toNatClampNeg &&& (nI 255)).toUInt32 % 65536).toInt32)) = .int (((mI h2 a0 a1.toNatClampNeg &&& (nI 255)).toUInt32 % 65536).toInt32)) ∧ K (((mI h2 a0 a1.toNatClampNeg &&& (nI 255)).toUInt32 % 65536).toInt32) h2)
def wJ0_charAt_5068e (a0 : Nat) (a1 : Int32) (h : AH) (K : Int32 → AH → Prop) : Prop :=
  (mS h a0 = (20, 0)) ∧ (a0 < nZ) ∧ wJ0_isLatin1_aae02 a0 h (fun r2 h1 => ((r2 = nI 0 → False) ∧ (¬ r2 = nI 0 → (mS h1 a0 = (20, 0)) ∧ (a0 < nZ) ∧ wJ1_charAt_3b067 (mR h1 a0 0) a1 h1 (fun r9 h8 => (narrow .char (.int r9) = .int r9) ∧ K r9 h8))))
def wX5_isDigit (a0 : Nat) (a1 : Int32) (h : AH) (K : Int32 → AH → Prop) : Prop :=
  ((a1 < nI 0 → K (nI 0) h) ∧ (¬ a1 < nI 0 → (isO h a0 3) ∧ ((mI h a0 1 ≤ a1 → K (nI 0) h) ∧ (¬ mI h a0 1 ≤ a1 → (isA h (mR h a0 0) 4) ∧ (vp_in a1 (ln h (mR h a0 0))) ∧ ((mI h (mR h a0 0) a1.toNatClampNeg < (nI 48) → K (nI 0) h) ∧ (¬ mI h (mR h a0 0) a1.toNatClampNeg < (nI 48) → (((nI 57) < mI h (mR h a0 0) a1.toNatClampNeg → K (nI 0) h) ∧ (¬ (nI 57) < mI h (mR h a0 0) a1.toNatClampNeg → K (nI 1) h))))))))
def wX5_digitsAt_L5 (K : Int32 → AH → Prop)   : Nat → Nat → Int32 → Int32 → Int32 → Int32 → AH → Prop
  | 0 => fun _ _ _ _ _ _ => False
  | n + 1 => fun x0 x1 x2 x3 x4 h =>
  ((x2 ≤ x4 → K x3 h) ∧ (¬ x2 ≤ x4 → (isO h x0 3) ∧ wX5_isDigit x0 (x1 + x4) h (fun r3 h2 => ((r3 = nI 0 → K x3 h2) ∧ (¬ r3 = nI 0 → wX5_digitsAt_L5 K   n x0 x1 x2 (x3 + (nI 1)) (x4 + (nI 1)) h2)))))
def wX5_digitsAt (a0 : Nat) (a1 : Int32) (a2 : Int32) (h : AH) (K : Int32 → AH → Prop) : Prop :=
  (∃ n6, wX5_digitsAt_L5 K  n6 a0 a1 a2 (nI 0) (nI 0) h)
def wX5_isAt (a0 : Nat) (a1 : Int32) (a2 : Int32) (h : AH) (K : Int32 → AH → Prop) : Prop :=
  ((a1 < nI 0 → K (nI 0) h) ∧ (¬ a1 < nI 0 → (isO h a0 3) ∧ ((mI h a0 1 ≤ a1 → K (nI 0) h) ∧ (¬ mI h a0 1 ≤ a1 → (isA h (mR h a0 0) 4) ∧ (vp_in a1 (ln h (mR h a0 0))) ∧ ((¬ mI h (mR h a0 0) a1.toNatClampNeg = a2 → K (nI 0) h) ∧ (mI h (mR h a0 0) a1.toNatClampNeg = a2 → K (nI 1) h))))))
def wX5_noteNumber_L6 (K : AH → Prop) (c49 : Nat → Int32 → Int32 → AH → Prop)  : Nat → Nat → Int32 → Int32 → Int32 → Int32 → Int32 → AH → Prop
  | 0 => fun _ _ _ _ _ _ _ => False
  | n + 1 => fun x0 x1 x2 x3 x4 x5 h =>
  ((x3 ≤ x5 → c49 x0 x1 x4 h) ∧ (¬ x3 ≤ x5 → (isO h x0 3) ∧ wX5_isDigit x0 (x2 + x5) h (fun r3 h2 => ((r3 = nI 0 → c49 x0 x1 x4 h2) ∧ (¬ r3 = nI 0 → (isO h2 x0 3) ∧ (isA h2 (mR h2 x0 0) 4) ∧ (vp_in (x2 + x5) (ln h2 (mR h2 x0 0))) ∧ ∀ v8 : Int32, v8 = ((x4 * (nI 10)) + (mI h2 (mR h2 x0 0) (x2 + x5).toNatClampNeg - (nI 48))) → wX5_noteNumber_L6 K c49  n x0 x1 x2 x3 v8 (x5 + (nI 1)) h2)))))
def wX5_noteNumber (a0 : Nat) (a1 : Int32) (a2 : Int32) (a3 : Int32) (h : AH) (K : AH → Prop) : Prop :=
  (∃ n25, wX5_noteNumber_L6 K (fun x0_11 x1_12 x4_13 h14 => (((nI 3) ≤ x1_12 → K h14) ∧ (¬ (nI 3) ≤ x1_12 → (isO h14 x0_11 3) ∧ (((nI 13) ≤ mI h14 x0_11 4 → K h14) ∧ (¬ (nI 13) ≤ mI h14 x0_11 4 → (isA h14 (mR h14 x0_11 3) 8) ∧ (nZ ≤ (mR h14 x0_11 3)) ∧ (vp_in (mI h14 x0_11 4) (ln h14 (mR h14 x0_11 3))) ∧ (isA h14 (mR h14 (mR h14 x0_11 3) (mI h14 x0_11 4).toNatClampNeg) 0) ∧ (nZ ≤ (mR h14 (mR h14 x0_11 3) (mI h14 x0_11 4).toNatClampNeg)) ∧ (vp_in x1_12 (ln h14 (mR h14 (mR h14 x0_11 3) (mI h14 x0_11 4).toNatClampNeg))) ∧ ∀ h24, h24 = uI h14 (mR h14 (mR h14 x0_11 3) (mI h14 x0_11 4).toNatClampNeg) x1_12.toNatClampNeg x4_13 → K h24))))) n25 a0 a1 a2 a3 (nI 0) (nI 0) h)
def wX5_match_J100 (K : Int32 → AH → Prop) (c8 : Nat → Nat → Int32 → Int32 → Int32 → AH → Prop) (x0 : Nat) (x1 : Nat) (x3 : Int32) (x4 : Int32) (x5 : Int32) (x7 : Int32) (h : AH) : Prop :=
  (isO h x0 3) ∧ ∀ h15, h15 = uI h x0 5 (if mI h x0 5 < (x3 + x7) then (x3 + x7) else mI h x0 5) → ((¬ x7 = nI 0 → c8 x0 x1 (x3 + x7) x4 (x5 + (nI 1)) h15) ∧ (x7 = nI 0 → K (-1) h15))
def wX5_match_J88 (K : Int32 → AH → Prop) (c8 : Nat → Nat → Int32 → Int32 → Int32 → AH → Prop) (x0 : Nat) (x1 : Nat) (x3 : Int32) (x4 : Int32) (x5 : Int32) (x7 : Int32) (h : AH) : Prop :=
  (isO h x0 3) ∧ wX5_noteNumber x0 x4 x3 x7 h (fun h12 => (wX5_match_J100 K c8 x0 x1 x3 (x4 + (nI 1)) x5 x7 h12))
def wX5_match_J72 (K : Int32 → AH → Prop) (c8 : Nat → Nat → Int32 → Int32 → Int32 → AH → Prop) (x0 : Nat) (x1 : Nat) (x3 : Int32) (x4 : Int32) (x5 : Int32) (x6 : Int32) (y0 : Int32) (h : AH) : Prop :=
  ((x6 = (nI 35) → (wX5_match_J88 K c8 x0 x1 x3 x4 x5 y0 h)) ∧ (¬ x6 = (nI 35) → ((¬ x6 = (nI 42) → (wX5_match_J100 K c8 x0 x1 x3 x4 x5 y0 h)) ∧ (x6 = (nI 42) → (wX5_match_J88 K c8 x0 x1 x3 x4 x5 y0 h)))))
def wX5_match_L8 (K : Int32 → AH → Prop)   : Nat → Nat → Nat → Int32 → Int32 → Int32 → AH → Prop
  | 0 => fun _ _ _ _ _ _ => False
  | n + 1 => fun x0 x1 x3 x4 x5 h =>
  (mS h x1 = (20, 0)) ∧ (x1 < nZ) ∧ wJ0_length_8abf5 x1 h (fun r2 h1 => ((r2 ≤ x5 → K x3 h1) ∧ (¬ r2 ≤ x5 → (mS h1 x1 = (20, 0)) ∧ (x1 < nZ) ∧ wJ0_charAt_5068e x1 x5 h1 (fun r5 h4 => ((¬ r5 = (nI 35) → ((¬ r5 = (nI 42) → (isO h4 x0 3) ∧ wX5_isAt x0 x3 r5 h4 (fun r9 h8 => ((r9 = nI 0 → (wX5_match_J72 K (wX5_match_L8 K   n) x0 x1 x3 x4 x5 r5 (nI 0) h8)) ∧ (¬ r9 = nI 0 → (wX5_match_J72 K (wX5_match_L8 K   n) x0 x1 x3 x4 x5 r5 (nI 1) h8))))) ∧ (r5 = (nI 42) → (isO h4 x0 3) ∧ wX5_digitsAt x0 x3 (nI 3) h4 (fun r21 h20 => (wX5_match_J72 K (wX5_match_L8 K   n) x0 x1 x3 x4 x5 r5 r21 h20))))) ∧ (r5 = (nI 35) → (isO h4 x0 3) ∧ wX5_digitsAt x0 x3 (nI 1) h4 (fun r24 h23 => (wX5_match_J72 K (wX5_match_L8 K   n) x0 x1 x3 x4 x5 r5 r24 h23))))))))
def wX5_match (a0 : Nat) (a1 : Nat) (a2 : Int32) (h : AH) (K : Int32 → AH → Prop) : Prop :=
  (∃ n30, wX5_match_L8 K  n30 a0 a1 a2 (nI 0) (nI 0) h)
def wX5_parseCommand_L9 (K : Int32 → AH → Prop)   : Nat → Nat → Int32 → Int32 → Int32 → AH → Prop
  | 0 => fun _ _ _ _ _ => False
  | n + 1 => fun x0 x1 x2 x3 h =>
  (isA h 1 7) ∧ ((nI (ln h 1) ≤ x3 → (isO h x0 3) ∧ ((x2 = mI h x0 1 → K x2 h) ∧ (¬ x2 = mI h x0 1 → wX5_isAt x0 x2 (nI 59) h (fun r8 h7 => ((r8 = nI 0 → K (-1) h7) ∧ (¬ r8 = nI 0 → K x2 h7)))))) ∧ (¬ nI (ln h 1) ≤ x3 → (vp_in x3 (ln h 1)) ∧ (mS h (mR h 1 x3.toNatClampNeg) = (21, 0)) ∧ ((mR h 1 x3.toNatClampNeg) < nZ) ∧ (isO h x0 3) ∧ wX5_match x0 (mR h (mR h 1 x3.toNatClampNeg) 0) x1 h (fun r14 h13 => ((r14 ≤ x2 → wX5_parseCommand_L9 K   n x0 x1 x2 (x3 + (nI 1)) h13) ∧ (¬ r14 ≤ x2 → (isO h13 x0 3) ∧ (((nI 13) ≤ mI h13 x0 4 → wX5_parseCommand_L9 K   n x0 x1 x2 (x3 + (nI 1)) h13) ∧ (¬ (nI 13) ≤ mI h13 x0 4 → (isA h13 1 7) ∧ (vp_in x3 (ln h13 1)) ∧ (isA h13 (mR h13 x0 2) 7) ∧ (mS h13 (mR h13 1 x3.toNatClampNeg) = (21, 0)) ∧ ((mR h13 1 x3.toNatClampNeg) < nZ) ∧ (nZ ≤ (mR h13 x0 2)) ∧ (vp_in (mI h13 x0 4) (ln h13 (mR h13 x0 2))) ∧ ∀ h25, h25 = uR h13 (mR h13 x0 2) (mI h13 x0 4).toNatClampNeg (mR h13 1 x3.toNatClampNeg) → wX5_parseCommand_L9 K   n x0 x1 r14 (x3 + (nI 1)) h25)))))))
def wX5_parseCommand (a0 : Nat) (a1 : Int32) (h : AH) (K : Int32 → AH → Prop) : Prop :=
  (isO h a0 3) ∧ ∀ h2, h2 = uI h a0 5 a1 → (∃ n27, wX5_parseCommand_L9 K  n27 a0 a1 (-1) (nI 0) h2)
def wX5_parse_L9 (K : Int32 → AH → Prop)   : Nat → Nat → Int32 → Int32 → AH → Prop
  | 0 => fun _ _ _ _ => False
  | n + 1 => fun x0 x1 x2 h =>
  (((nI 13) ≤ x2 → K (nI 0) h) ∧ (¬ (nI 13) ≤ x2 → (isO h x0 3) ∧ wX5_parseCommand x0 x1 h (fun r5 h4 => ((¬ r5 = (-1) → (isO h4 x0 3) ∧ ∀ h8, h8 = uI h4 x0 4 (mI h4 x0 4 + (nI 1)) → ((¬ r5 = mI h8 x0 1 → wX5_parse_L9 K   n x0 (r5 + (nI 1)) (x2 + (nI 1)) h8) ∧ (r5 = mI h8 x0 1 → K (nI 1) h8))) ∧ (r5 = (-1) → K (nI 0) h4)))))
def wX5_parse (a0 : Nat) (h : AH) (K : Int32 → AH → Prop) : Prop :=
  (isO h a0 3) ∧ ∀ h2, h2 = uI h a0 4 (nI 0) → (∃ n11, wX5_parse_L9 K  n11 a0 (nI 0) (nI 0) h2)
def wX5_clear (a0 : Nat) (h : AH) (K : AH → Prop) : Prop :=
  (isO h a0 3) ∧ ∀ h2, h2 = uI h a0 1 (nI 0) → K h2
def wX5_number_J26 (K : Int32 → AH → Prop)  (x0 : Nat) (x1 : Int32) (x2 : Int32) (y0 : Int32) (h : AH) : Prop :=
  ((y0 = nI 0 → K (-1) h) ∧ (¬ y0 = nI 0 → (isO h x0 3) ∧ (isA h (mR h x0 3) 8) ∧ (nZ ≤ (mR h x0 3)) ∧ (vp_in x1 (ln h (mR h x0 3))) ∧ (isA h (mR h (mR h x0 3) x1.toNatClampNeg) 0) ∧ (vp_in x2 (ln h (mR h (mR h x0 3) x1.toNatClampNeg))) ∧ K (mI h (mR h (mR h x0 3) x1.toNatClampNeg) x2.toNatClampNeg) h))
def wX5_number_J25 (K : Int32 → AH → Prop)  (x0 : Nat) (x1 : Int32) (x2 : Int32) (h : AH) : Prop :=
  (wX5_number_J26 K x0 x1 x2 (nI 0) h)
def wX5_number (a0 : Nat) (a1 : Int32) (a2 : Int32) (h : AH) (K : Int32 → AH → Prop) : Prop :=
  ((a1 < nI 0 → (wX5_number_J25 K a0 a1 a2 h)) ∧ (¬ a1 < nI 0 → (isO h a0 3) ∧ ((mI h a0 4 ≤ a1 → (wX5_number_J25 K a0 a1 a2 h)) ∧ (¬ mI h a0 4 ≤ a1 → ((a2 < nI 0 → (wX5_number_J25 K a0 a1 a2 h)) ∧ (¬ a2 < nI 0 → (((nI 3) ≤ a2 → (wX5_number_J25 K a0 a1 a2 h)) ∧ (¬ (nI 3) ≤ a2 → (wX5_number_J26 K a0 a1 a2 (nI 1) h)))))))))
def wX5_command (a0 : Nat) (a1 : Int32) (h : AH) (K : Nat → AH → Prop) : Prop :=
  ((a1 < nI 0 → K 11 h) ∧ (¬ a1 < nI 0 → (isO h a0 3) ∧ ((mI h a0 4 ≤ a1 → K 11 h) ∧ (¬ mI h a0 4 ≤ a1 → (isA h (mR h a0 2) 7) ∧ (vp_in a1 (ln h (mR h a0 2))) ∧ K (mR h (mR h a0 2) a1.toNatClampNeg) h))))
def wJord (a0 : Nat) (h : AH) (K : Int32 → AH → Prop) : Prop :=
  (mS h a0 = (21, 0)) ∧ (a0 < nZ) ∧ K (mI h a0 1) h
def wX9_execute (a0 : Nat) (a1 : Int32) (h : AH) (K : Int32 → AH → Prop) : Prop :=
  (isO h a0 0) ∧ (isO h (mR h a0 5) 3) ∧ wX5_number (mR h a0 5) a1 (nI 0) h (fun r3 h2 => (isO h2 a0 0) ∧ (isO h2 (mR h2 a0 5) 3) ∧ wX5_number (mR h2 a0 5) a1 (nI 1) h2 (fun r6 h5 => (isO h5 a0 0) ∧ (isO h5 (mR h5 a0 5) 3) ∧ wX5_number (mR h5 a0 5) a1 (nI 2) h5 (fun r9 h8 => (isO h8 a0 0) ∧ (isO h8 (mR h8 a0 5) 3) ∧ wX5_command (mR h8 a0 5) a1 h8 (fun r12 h11 => (mS h11 r12 = (21, 0)) ∧ (r12 < nZ) ∧ wJord r12 h11 (fun r14 h13 => (isA h13 13 0) ∧ (vp_in r14 (ln h13 13)) ∧ ((mI h13 13 r14.toNatClampNeg = (nI 1) → (isO h13 a0 0) ∧ (isO h13 (mR h13 a0 0) 5) ∧ (isO h13 (mR h13 (mR h13 a0 0) 0) 2) ∧ wX4_makeBlock (mR h13 (mR h13 a0 0) 0) r3 h13 (fun r20 h19 => K r20 h19)) ∧ (mI h13 13 r14.toNatClampNeg = (nI 2) → (isO h13 a0 0) ∧ (isO h13 (mR h13 a0 0) 5) ∧ (isO h13 (mR h13 (mR h13 a0 0) 0) 2) ∧ wX4_makePoint (mR h13 (mR h13 a0 0) 0) r3 r6 r9 h13 (fun r25 h24 => K r25 h24)) ∧ (mI h13 13 r14.toNatClampNeg = (nI 3) → (isO h13 a0 0) ∧ (isO h13 (mR h13 a0 0) 5) ∧ (isO h13 (mR h13 (mR h13 a0 0) 0) 2) ∧ wX4_makeLink (mR h13 (mR h13 a0 0) 0) r3 r6 h13 (fun r30 h29 => K r30 h29)) ∧ (mI h13 13 r14.toNatClampNeg = (nI 4) → (isO h13 a0 0) ∧ (isO h13 (mR h13 a0 0) 5) ∧ wX7_bringTrain (mR h13 a0 0) r3 r6 h13 (fun r34 h33 => K r34 h33)) ∧ (mI h13 13 r14.toNatClampNeg = (nI 5) → (isO h13 a0 0) ∧ wX9_grantOrRecord a0 r3 h13 (fun r37 h36 => K r37 h36)) ∧ (mI h13 13 r14.toNatClampNeg = (nI 6) → (isO h13 a0 0) ∧ (isO h13 (mR h13 a0 0) 5) ∧ wX7_withdrawRoute (mR h13 a0 0) r3 h13 (fun r41 h40 => K r41 h40)) ∧ (mI h13 13 r14.toNatClampNeg = (nI 7) → (isO h13 a0 0) ∧ (isO h13 (mR h13 a0 0) 5) ∧ wX7_shutBlock (mR h13 a0 0) r3 h13 (fun r45 h44 => K r45 h44)) ∧ (mI h13 13 r14.toNatClampNeg = (nI 8) → (isO h13 a0 0) ∧ (isO h13 (mR h13 a0 0) 5) ∧ wX7_openBlock (mR h13 a0 0) r3 h13 (fun r49 h48 => K r49 h48)) ∧ (mI h13 13 r14.toNatClampNeg = (nI 9) → (isO h13 a0 0) ∧ (isO h13 (mR h13 a0 0) 5) ∧ wX7_movePoint (mR h13 a0 0) r3 h13 (fun r53 h52 => K r53 h52)) ∧ (mI h13 13 r14.toNatClampNeg = (nI 10) → (isO h13 a0 0) ∧ (isO h13 (mR h13 a0 0) 5) ∧ wX7_letPass (mR h13 a0 0) (nI 1) h13 (fun r57 h56 => K r57 h56)) ∧ (¬ mI h13 13 r14.toNatClampNeg = (nI 1) ∧ ¬ mI h13 13 r14.toNatClampNeg = (nI 2) ∧ ¬ mI h13 13 r14.toNatClampNeg = (nI 3) ∧ ¬ mI h13 13 r14.toNatClampNeg = (nI 4) ∧ ¬ mI h13 13 r14.toNatClampNeg = (nI 5) ∧ ¬ mI h13 13 r14.toNatClampNeg = (nI 6) ∧ ¬ mI h13 13 r14.toNatClampNeg = (nI 7) ∧ ¬ mI h13 13 r14.toNatClampNeg = (nI 8) ∧ ¬ mI h13 13 r14.toNatClampNeg = (nI 9) ∧ ¬ mI h13 13 r14.toNatClampNeg = (nI 10) → (isO h13 a0 0) ∧ (isO h13 (mR h13 a0 0) 5) ∧ wX7_letPass (mR h13 a0 0) r3 h13 (fun r61 h60 => K r61 h60))))))))
def wX2_putBack (a0 : Nat) (a1 : Nat) (h : AH) (K : AH → Prop) : Prop :=
  (isO h a0 1) ∧ (isA h (mR h a0 0) 5) ∧ (vp_in (mI h a0 1) (ln h (mR h a0 0))) ∧ (isO h a1 5) ∧ wX7_copyFrom a1 (mR h (mR h a0 0) (mI h a0 1).toNatClampNeg) h (fun h4 => K h4)
def wX9_run_L54 (K : Int32 → AH → Prop) (T : String → AH → Prop)   : Nat → Nat → Int32 → AH → Prop
  | 0 => fun _ _ _ => False
  | n + 1 => fun x0 x2 h =>
  (isO h x0 0) ∧ (isO h (mR h x0 5) 3) ∧ ((mI h (mR h x0 5) 4 ≤ x2 → wX9_settle x0 (mI h (mR h x0 5) 4) h (fun r15 h14 => K r15 h14) T) ∧ (¬ mI h (mR h x0 5) 4 ≤ x2 → wX9_execute x0 x2 h (fun r17 h16 => ((nI 0 ≤ r17 → wX9_run_L54 K T   n x0 (x2 + (nI 1)) h16) ∧ (¬ nI 0 ≤ r17 → (isO h16 x0 0) ∧ (isO h16 (mR h16 x0 3) 1) ∧ wX2_putBack (mR h16 x0 3) (mR h16 x0 0) h16 (fun h20 => (isO h20 x0 0) ∧ ∀ h23, h23 = uI h20 x0 11 x2 → T "java/lang/UnsupportedOperationException" h23))))))
def wX9_run (a0 : Nat) (h : AH) (K : Int32 → AH → Prop) (T : String → AH → Prop) : Prop :=
  (isO h a0 0) ∧ (isO h (mR h a0 5) 3) ∧ wX5_parse (mR h a0 5) h (fun r3 h2 => (isO h2 a0 0) ∧ (isO h2 (mR h2 a0 5) 3) ∧ wX5_clear (mR h2 a0 5) h2 (fun h5 => ((¬ r3 = nI 0 → (isO h5 a0 0) ∧ (isO h5 (mR h5 a0 3) 1) ∧ wX2_keep (mR h5 a0 3) (mR h5 a0 0) h5 (fun h9 => (∃ n25, wX9_run_L54 K T  n25 a0 (nI 0) h9))) ∧ (r3 = nI 0 → (isO h5 a0 0) ∧ (isO h5 (mR h5 a0 5) 3) ∧ ∀ h29, h29 = uI h5 a0 10 (mI h5 (mR h5 a0 5) 5) → T "java/lang/IllegalArgumentException" h29))))
def wX2_takeBack (a0 : Nat) (a1 : Nat) (h : AH) (K : Int32 → AH → Prop) : Prop :=
  (isO h a0 1) ∧ ((¬ mI h a0 2 = nI 0 → ∀ h3, h3 = uI h a0 2 (mI h a0 2 - (nI 1)) → ∀ h4, h4 = uI h3 a0 1 (((mI h3 a0 1 + (nI 9)) - (nI 1)) - ((mI h3 a0 1 + (nI 9)) - (nI 1)) / (nI 9) * (nI 9)) → wX2_putBack a0 a1 h4 (fun h5 => K (nI 1) h5)) ∧ (mI h a0 2 = nI 0 → K (nI 0) h))
def wX9_undo (a0 : Nat) (h : AH) (K : Int32 → AH → Prop) (T : String → AH → Prop) : Prop :=
  (isO h a0 0) ∧ (isO h (mR h a0 3) 1) ∧ wX2_takeBack (mR h a0 3) (mR h a0 0) h (fun r3 h2 => ((¬ r3 = nI 0 → (isO h2 a0 0) ∧ (isO h2 (mR h2 a0 3) 1) ∧ K (mI h2 (mR h2 a0 3) 2) h2) ∧ (r3 = nI 0 → T "java/lang/IllegalStateException" h2)))
def wX9_save (a0 : Nat) (h : AH) (K : Int32 → AH → Prop) : Prop :=
  (isO h a0 0) ∧ (isO h (mR h a0 1) 5) ∧ wX7_copyFrom (mR h a0 1) (mR h a0 0) h (fun h2 => (isO h2 a0 0) ∧ ∀ h5, h5 = uI h2 a0 7 (nI 1) → (isO h2 (mR h2 a0 0) 5) ∧ K (mI h5 (mR h2 a0 0) 3) h5)
def wX2_forget (a0 : Nat) (h : AH) (K : AH → Prop) : Prop :=
  (isO h a0 1) ∧ ∀ h2, h2 = uI h a0 2 (nI 0) → K h2
def wX9_restore (a0 : Nat) (h : AH) (K : Int32 → AH → Prop) (T : String → AH → Prop) : Prop :=
  (isO h a0 0) ∧ ((¬ mI h a0 7 = nI 0 → (isO h (mR h a0 0) 5) ∧ wX7_copyFrom (mR h a0 0) (mR h a0 1) h (fun h3 => (isO h3 a0 0) ∧ (isO h3 (mR h3 a0 3) 1) ∧ wX2_forget (mR h3 a0 3) h3 (fun h6 => (isO h6 a0 0) ∧ (isO h6 (mR h6 a0 0) 5) ∧ K (mI h6 (mR h6 a0 0) 3) h6))) ∧ (mI h a0 7 = nI 0 → T "java/lang/IllegalStateException" h))
def wL_cell (a0 : Nat) (a1 : Int32) (h : AH) (K : Int32 → AH → Prop) : Prop :=
  (isA h a0 0) ∧ ((nI (ln h a0) ≤ a1 → K ((nI 40503) * a1) h) ∧ (¬ nI (ln h a0) ≤ a1 → (vp_in a1 (ln h a0)) ∧ K (mI h a0 a1.toNatClampNeg) h))
def wL_pick (a0 : Nat) (a1 : Int32) (a2 : Int32) (h : AH) (K : Int32 → AH → Prop) : Prop :=
  wL_cell a0 a1 h (fun r2 h1 => (¬ a2 = 0) ∧ K ((r2.toUInt32 >>> ((nI 1).toUInt32 &&& Int32.toUInt32 (nI 31))).toInt32 - (r2.toUInt32 >>> ((nI 1).toUInt32 &&& Int32.toUInt32 (nI 31))).toInt32 / a2 * a2) h1)
def wL_addBlock (a0 : Nat) (a1 : Int32) (h : AH) (K : Int32 → AH → Prop) : Prop :=
  (isO h a0 0) ∧ wX9_addBlock a0 a1 h (fun r2 h1 => K r2 h1) (fun E9 h3 => (E9 = "java/lang/IllegalArgumentException" ∧ K (-78) h3) ∨ (E9 = "java/lang/IllegalStateException" ∧ K (-79) h3))
def wL_addPoint (a0 : Nat) (a1 : Int32) (a2 : Int32) (a3 : Int32) (h : AH) (K : Int32 → AH → Prop) : Prop :=
  (isO h a0 0) ∧ wX9_addPoint a0 a1 a2 a3 h (fun r2 h1 => K r2 h1) (fun E9 h3 => (E9 = "java/lang/IndexOutOfBoundsException" ∧ K (-77) h3) ∨ (E9 = "java/lang/IllegalArgumentException" ∧ K (-78) h3) ∨ (E9 = "java/lang/IllegalStateException" ∧ K (-79) h3))
def wL_addLink (a0 : Nat) (a1 : Int32) (a2 : Int32) (h : AH) (K : Int32 → AH → Prop) : Prop :=
  (isO h a0 0) ∧ wX9_addLink a0 a1 a2 h (fun r2 h1 => K r2 h1) (fun E9 h3 => (E9 = "java/lang/IndexOutOfBoundsException" ∧ K (-77) h3) ∨ (E9 = "java/lang/IllegalArgumentException" ∧ K (-78) h3) ∨ (E9 = "java/lang/IllegalStateException" ∧ K (-79) h3))
def wL_shut (a0 : Nat) (a1 : Int32) (h : AH) (K : Int32 → AH → Prop) : Prop :=
  (isO h a0 0) ∧ wX9_shut a0 a1 h (fun r2 h1 => K r2 h1) (fun E9 h3 => (E9 = "java/lang/IndexOutOfBoundsException" ∧ K (-77) h3) ∨ (E9 = "java/lang/IllegalStateException" ∧ K (-79) h3))
def wL_open (a0 : Nat) (a1 : Int32) (h : AH) (K : Int32 → AH → Prop) : Prop :=
  (isO h a0 0) ∧ wX9_open a0 a1 h (fun r2 h1 => K r2 h1) (fun E9 h3 => (E9 = "java/lang/IndexOutOfBoundsException" ∧ K (-77) h3) ∨ (E9 = "java/lang/IllegalStateException" ∧ K (-79) h3))
def wL_throwPoint (a0 : Nat) (a1 : Int32) (h : AH) (K : Int32 → AH → Prop) : Prop :=
  (isO h a0 0) ∧ wX9_throwPoint a0 a1 h (fun r2 h1 => ((r2 = nI 0 → K (nI 0) h1) ∧ (¬ r2 = nI 0 → K (nI 1) h1))) (fun E9 h4 => (E9 = "java/lang/IndexOutOfBoundsException" ∧ K (-77) h4) ∨ (E9 = "java/lang/IllegalStateException" ∧ K (-79) h4))
def wL_addTrain (a0 : Nat) (a1 : Int32) (a2 : Int32) (h : AH) (K : Int32 → AH → Prop) : Prop :=
  (isO h a0 0) ∧ wX9_addTrain a0 a1 a2 h (fun r2 h1 => K r2 h1) (fun E9 h3 => (E9 = "java/lang/IndexOutOfBoundsException" ∧ K (-77) h3) ∨ (E9 = "java/lang/IllegalArgumentException" ∧ K (-78) h3) ∨ (E9 = "java/lang/IllegalStateException" ∧ K (-79) h3))
def wL_setRoute (a0 : Nat) (a1 : Int32) (h : AH) (K : Int32 → AH → Prop) : Prop :=
  (isO h a0 0) ∧ wX9_setRoute a0 a1 h (fun r2 h1 => K r2 h1) (fun E9 h3 => (E9 = "java/util/NoSuchElementException" ∧ K (-75) h3) ∨ (E9 = "java/lang/IllegalStateException" ∧ K (-79) h3) ∨ (E9 = "java/lang/UnsupportedOperationException" ∧ K (-76) h3))
def wL_releaseRoute (a0 : Nat) (a1 : Int32) (h : AH) (K : Int32 → AH → Prop) : Prop :=
  (isO h a0 0) ∧ wX9_releaseRoute a0 a1 h (fun r2 h1 => K r2 h1) (fun E9 h3 => (E9 = "java/util/NoSuchElementException" ∧ K (-75) h3) ∨ (E9 = "java/lang/IllegalStateException" ∧ K (-79) h3))
def wL_pass (a0 : Nat) (a1 : Int32) (h : AH) (K : Int32 → AH → Prop) : Prop :=
  (isO h a0 0) ∧ wX9_pass a0 a1 h (fun r2 h1 => K r2 h1) (fun E9 h3 => (E9 = "java/lang/IllegalArgumentException" ∧ K (-78) h3))
def wL_blockLength (a0 : Nat) (a1 : Int32) (h : AH) (K : Int32 → AH → Prop) : Prop :=
  (isO h a0 0) ∧ wX9_blockLength a0 a1 h (fun r2 h1 => K r2 h1) (fun E9 h3 => (E9 = "java/lang/IndexOutOfBoundsException" ∧ K (-77) h3))
def wL_blockState (a0 : Nat) (a1 : Int32) (h : AH) (K : Int32 → AH → Prop) : Prop :=
  (isO h a0 0) ∧ wX9_blockState a0 a1 h (fun r2 h1 => K r2 h1) (fun E9 h3 => (E9 = "java/lang/IndexOutOfBoundsException" ∧ K (-77) h3))
def wL_trainAt (a0 : Nat) (a1 : Int32) (h : AH) (K : Int32 → AH → Prop) : Prop :=
  (isO h a0 0) ∧ wX9_trainAt a0 a1 h (fun r2 h1 => K r2 h1) (fun E9 h3 => (E9 = "java/lang/IndexOutOfBoundsException" ∧ K (-77) h3) ∨ (E9 = "java/util/NoSuchElementException" ∧ K (-75) h3))
def wL_liesLeft (a0 : Nat) (a1 : Int32) (h : AH) (K : Int32 → AH → Prop) : Prop :=
  (isO h a0 0) ∧ wX9_liesLeft a0 a1 h (fun r2 h1 => ((r2 = nI 0 → K (nI 0) h1) ∧ (¬ r2 = nI 0 → K (nI 1) h1))) (fun E9 h4 => (E9 = "java/lang/IndexOutOfBoundsException" ∧ K (-77) h4))
def wL_lockedBy (a0 : Nat) (a1 : Int32) (h : AH) (K : Int32 → AH → Prop) : Prop :=
  (isO h a0 0) ∧ wX9_lockedBy a0 a1 h (fun r2 h1 => K r2 h1) (fun E9 h3 => (E9 = "java/lang/IndexOutOfBoundsException" ∧ K (-77) h3) ∨ (E9 = "java/util/NoSuchElementException" ∧ K (-75) h3))
def wL_routeLength (a0 : Nat) (a1 : Int32) (a2 : Int32) (h : AH) (K : Int32 → AH → Prop) : Prop :=
  (isO h a0 0) ∧ wX9_routeLength a0 a1 a2 h (fun r2 h1 => K r2 h1) (fun E9 h3 => (E9 = "java/lang/IndexOutOfBoundsException" ∧ K (-77) h3) ∨ (E9 = "java/util/NoSuchElementException" ∧ K (-75) h3))
def wL_routeLengthByPaths (a0 : Nat) (a1 : Int32) (a2 : Int32) (h : AH) (K : Int32 → AH → Prop) : Prop :=
  (isO h a0 0) ∧ wX9_routeLengthByPaths a0 a1 a2 h (fun r2 h1 => K r2 h1) (fun E9 h3 => (E9 = "java/lang/IndexOutOfBoundsException" ∧ K (-77) h3) ∨ (E9 = "java/util/NoSuchElementException" ∧ K (-75) h3))
def wL_routeBlock (a0 : Nat) (a1 : Int32) (a2 : Int32) (a3 : Int32) (h : AH) (K : Int32 → AH → Prop) : Prop :=
  (isO h a0 0) ∧ wX9_routeBlock a0 a1 a2 a3 h (fun r2 h1 => K r2 h1) (fun E9 h3 => (E9 = "java/lang/IndexOutOfBoundsException" ∧ K (-77) h3) ∨ (E9 = "java/util/NoSuchElementException" ∧ K (-75) h3))
def wL_paths (a0 : Nat) (a1 : Int32) (a2 : Int32) (h : AH) (K : Int32 → AH → Prop) : Prop :=
  (isO h a0 0) ∧ wX9_paths a0 a1 a2 h (fun r2 h1 => K r2 h1) (fun E9 h3 => (E9 = "java/lang/IndexOutOfBoundsException" ∧ K (-77) h3))
def wL_blockOf (a0 : Nat) (a1 : Int32) (h : AH) (K : Int32 → AH → Prop) : Prop :=
  (isO h a0 0) ∧ wX9_blockOf a0 a1 h (fun r2 h1 => K r2 h1) (fun E9 h3 => (E9 = "java/util/NoSuchElementException" ∧ K (-75) h3))
def wL_destination (a0 : Nat) (a1 : Int32) (h : AH) (K : Int32 → AH → Prop) : Prop :=
  (isO h a0 0) ∧ wX9_destination a0 a1 h (fun r2 h1 => K r2 h1) (fun E9 h3 => (E9 = "java/util/NoSuchElementException" ∧ K (-75) h3))
def wL_hasRoute (a0 : Nat) (a1 : Int32) (h : AH) (K : Int32 → AH → Prop) : Prop :=
  (isO h a0 0) ∧ wX9_hasRoute a0 a1 h (fun r2 h1 => ((r2 = nI 0 → K (nI 0) h1) ∧ (¬ r2 = nI 0 → K (nI 1) h1))) (fun E9 h4 => (E9 = "java/util/NoSuchElementException" ∧ K (-75) h4))
def wL_isClear (a0 : Nat) (a1 : Int32) (h : AH) (K : Int32 → AH → Prop) : Prop :=
  (isO h a0 0) ∧ wX9_isClear a0 a1 h (fun r2 h1 => ((r2 = nI 0 → K (nI 0) h1) ∧ (¬ r2 = nI 0 → K (nI 1) h1))) (fun E9 h4 => (E9 = "java/util/NoSuchElementException" ∧ K (-75) h4))
def wL_minutesUntilNext (a0 : Nat) (a1 : Int32) (h : AH) (K : Int32 → AH → Prop) : Prop :=
  (isO h a0 0) ∧ wX9_minutesUntilNext a0 a1 h (fun r2 h1 => K r2 h1) (fun E9 h3 => (E9 = "java/util/NoSuchElementException" ∧ K (-75) h3))
def wL_minutesUntilArrival (a0 : Nat) (a1 : Int32) (h : AH) (K : Int32 → AH → Prop) : Prop :=
  (isO h a0 0) ∧ wX9_minutesUntilArrival a0 a1 h (fun r2 h1 => K r2 h1) (fun E9 h3 => (E9 = "java/util/NoSuchElementException" ∧ K (-75) h3))
def wL_minutesUntilArrivalByPassing (a0 : Nat) (a1 : Int32) (h : AH) (K : Int32 → AH → Prop) : Prop :=
  (isO h a0 0) ∧ wX9_minutesUntilArrivalByPassing a0 a1 h (fun r2 h1 => K r2 h1) (fun E9 h3 => (E9 = "java/util/NoSuchElementException" ∧ K (-75) h3))
def wL_delay (a0 : Nat) (a1 : Int32) (h : AH) (K : Int32 → AH → Prop) : Prop :=
  (isO h a0 0) ∧ wX9_delay a0 a1 h (fun r2 h1 => K r2 h1) (fun E9 h3 => (E9 = "java/util/NoSuchElementException" ∧ K (-75) h3))
def wL_queued (a0 : Nat) (a1 : Int32) (h : AH) (K : Int32 → AH → Prop) : Prop :=
  (isO h a0 0) ∧ wX9_queued a0 a1 h (fun r2 h1 => K r2 h1) (fun E9 h3 => (E9 = "java/util/NoSuchElementException" ∧ K (-75) h3))
def wL_waitsFor (a0 : Nat) (a1 : Int32) (a2 : Int32) (h : AH) (K : Int32 → AH → Prop) : Prop :=
  (isO h a0 0) ∧ wX9_waitsFor a0 a1 a2 h (fun r2 h1 => ((r2 = nI 0 → K (nI 0) h1) ∧ (¬ r2 = nI 0 → K (nI 1) h1))) (fun E9 h4 => (E9 = "java/util/NoSuchElementException" ∧ K (-75) h4))
def wL_conflict (a0 : Nat) (a1 : Int32) (a2 : Int32) (h : AH) (K : Int32 → AH → Prop) : Prop :=
  (isO h a0 0) ∧ wX9_conflict a0 a1 a2 h (fun r2 h1 => ((r2 = nI 0 → K (nI 0) h1) ∧ (¬ r2 = nI 0 → K (nI 1) h1))) (fun E9 h4 => (E9 = "java/util/NoSuchElementException" ∧ K (-75) h4) ∨ (E9 = "java/lang/IllegalArgumentException" ∧ K (-78) h4))
def wL_refusalReason (a0 : Nat) (h : AH) (K : Int32 → AH → Prop) : Prop :=
  (isO h a0 0) ∧ wX9_refusalReason a0 h (fun r2 h1 => K r2 h1) (fun E9 h3 => (E9 = "java/util/NoSuchElementException" ∧ K (-75) h3))
def wL_refusalBlock (a0 : Nat) (h : AH) (K : Int32 → AH → Prop) : Prop :=
  (isO h a0 0) ∧ wX9_refusalBlock a0 h (fun r2 h1 => K r2 h1) (fun E9 h3 => (E9 = "java/util/NoSuchElementException" ∧ K (-75) h3))
def wL_meanDelay (a0 : Nat) (h : AH) (K : UInt64 → AH → Prop) : Prop :=
  (isO h a0 0) ∧ wX9_meanDelay a0 h (fun r2 h1 => K r2 h1) (fun E9 h3 => (E9 = "java/lang/ArithmeticException" ∧ K (13858279740860792832) h3))
def wL_usedShare (a0 : Nat) (h : AH) (K : UInt32 → AH → Prop) : Prop :=
  (isO h a0 0) ∧ wX9_usedShare a0 h (fun r2 h1 => K r2 h1) (fun E9 h3 => (E9 = "java/lang/ArithmeticException" ∧ K (3264479232) h3))
def wL_writeTrain (a0 : Nat) (a1 : Int32) (h : AH) (K : Int32 → AH → Prop) : Prop :=
  (isO h a0 0) ∧ wX9_writeTrain a0 a1 h (fun r2 h1 => K r2 h1) (fun E9 h3 => (E9 = "java/util/NoSuchElementException" ∧ K (-75) h3))
def wL_type (a0 : Nat) (a1 : Int32) (h : AH) (K : Int32 → AH → Prop) : Prop :=
  (isO h a0 0) ∧ wX9_type a0 a1 h (fun r2 h1 => K r2 h1) (fun E9 h3 => (E9 = "java/lang/IllegalStateException" ∧ K (-79) h3))
def wL_run (a0 : Nat) (h : AH) (K : Int32 → AH → Prop) : Prop :=
  (isO h a0 0) ∧ wX9_run a0 h (fun r2 h1 => K r2 h1) (fun E9 h3 => (E9 = "java/lang/IllegalArgumentException" ∧ K (-78) h3) ∨ (E9 = "java/lang/UnsupportedOperationException" ∧ K (-76) h3))
def wL_undo (a0 : Nat) (h : AH) (K : Int32 → AH → Prop) : Prop :=
  (isO h a0 0) ∧ wX9_undo a0 h (fun r2 h1 => K r2 h1) (fun E9 h3 => (E9 = "java/lang/IllegalStateException" ∧ K (-79) h3))
def wL_restore (a0 : Nat) (h : AH) (K : Int32 → AH → Prop) : Prop :=
  (isO h a0 0) ∧ wX9_restore a0 h (fun r2 h1 => K r2 h1) (fun E9 h3 => (E9 = "java/lang/IllegalStateException" ∧ K (-79) h3))
def wJ0U_coder (a0 : Nat) (h : AH) (K : Int32 → AH → Prop) : Prop :=
  (((nI 1) = nI 0 → K (nI 1) h) ∧ (¬ (nI 1) = nI 0 → (isSt h a0) ∧ (narrow .byte (.int (mI h a0 1)) = .int (mI h a0 1)) ∧ K (mI h a0 1) h))
def wJ0U_length (a0 : Nat) (h : AH) (K : Int32 → AH → Prop) : Prop :=
  (isSt h a0) ∧ (isA h (mR h a0 0) 3) ∧ wJ0U_coder a0 h (fun r4 h3 => K (nI (ln h (mR h a0 0)) >>> (r4 &&& nI 31)) h3)
def wJ0U_isLatin1 (a0 : Nat) (h : AH) (K : Int32 → AH → Prop) : Prop :=
  (((nI 1) = nI 0 → K (nI 0) h) ∧ (¬ (nI 1) = nI 0 → (isSt h a0) ∧ ((¬ mI h a0 1 = nI 0 → K (nI 0) h) ∧ (mI h a0 1 = nI 0 → K (nI 1) h))))
def wJ0U_charAt (a0 : Nat) (a1 : Int32) (h : AH) (K : Int32 → AH → Prop) : Prop :=
  (isSt h a0) ∧ wJ0U_isLatin1 a0 h (fun r2 h1 => ((r2 = nI 0 → False) ∧ (¬ r2 = nI 0 → (isSt h1 a0) ∧ wJ1_charAt_3b067 (mR h1 a0 0) a1 h1 (fun r7 h6 => (narrow .char (.int r7) = .int r7) ∧ K r7 h6))))
def wL_runs_L2 (K : Int32 → AH → Prop)   : Nat → Nat → Nat → Nat → Int32 → AH → Prop
  | 0 => fun _ _ _ _ _ => False
  | n + 1 => fun b x0 x1 x2 h =>
  (isSt h x1) ∧ wJ0U_length x1 h (fun r2 h1 => ((r2 ≤ x2 → (0 < b) ∧ wL_run x0 h1 (fun r6 h5 => K r6 h5)) ∧ (¬ r2 ≤ x2 → (isSt h1 x1) ∧ wJ0U_charAt x1 x2 h1 (fun r8 h7 => (0 < b) ∧ wL_type x0 r8 h7 (fun r11 h10 => wL_runs_L2 K   n (b - 1) x0 x1 (x2 + (nI 1)) h10)))))
def wL_runs (a0 : Nat) (a1 : Nat) (h : AH) (K : Int32 → AH → Prop) : Prop :=
  (∃ n14 bn14, bn14 ≤ 15 ∧ wL_runs_L2 K  n14 bn14 a0 a1 (nI 0) h)
def wL_sum_L27 (K : Int64 → AH → Prop) (c102 : Nat → Int64 → AH → Prop)  : Nat → Nat → Nat → Int64 → Int32 → AH → Prop
  | 0 => fun _ _ _ _ _ => False
  | n + 1 => fun b x0 x1 x3 h =>
  (isO h x0 0) ∧ wX9_blocks x0 h (fun r8 h7 => ((r8 ≤ x3 → c102 x0 x1 h7) ∧ (¬ r8 ≤ x3 → (0 < b) ∧ wL_blockState x0 x3 h7 (fun r12 h11 => wL_trainAt x0 x3 h11 (fun r14 h13 => wL_blockLength x0 x3 h13 (fun r16 h15 => wL_paths x0 x3 (nI 0) h15 (fun r18 h17 => wL_paths x0 (nI 0) x3 h17 (fun r20 h19 => wL_sum_L27 K c102  n (b - 1) x0 ((((31) * (((((31) * x1) + ((1009) * r12.toInt64)) + ((31) * r14.toInt64)) + r16.toInt64)) + r18.toInt64) + ((7) * r20.toInt64)) (x3 + (nI 1)) h19))))))))
def wL_sum_L104 (K : Int64 → AH → Prop) (c140 : Nat → Int64 → AH → Prop)  : Nat → Nat → Nat → Int64 → Int32 → AH → Prop
  | 0 => fun _ _ _ _ _ => False
  | n + 1 => fun b x0 x1 x3 h =>
  (((nI 8) ≤ x3 → c140 x0 x1 h) ∧ (¬ (nI 8) ≤ x3 → (0 < b) ∧ wL_liesLeft x0 x3 h (fun r28 h27 => wL_lockedBy x0 x3 h27 (fun r30 h29 => wL_sum_L104 K c140  n (b - 1) x0 ((((31) * x1) + ((101) * r28.toInt64)) + r30.toInt64) (x3 + (nI 1)) h29))))
def wL_sum_L142 (K : Int64 → AH → Prop) (c213 : Nat → Int64 → AH → Prop)  : Nat → Nat → Nat → Int64 → Int32 → AH → Prop
  | 0 => fun _ _ _ _ _ => False
  | n + 1 => fun b x0 x1 x3 h =>
  (isO h x0 0) ∧ wX9_blocks x0 h (fun r35 h34 => ((r35 ≤ x3 → c213 x0 x1 h34) ∧ (¬ r35 ≤ x3 → (0 < b) ∧ wL_trainAt x0 x3 h34 (fun r39 h38 => wL_blockOf x0 r39 h38 (fun r41 h40 => wL_destination x0 r39 h40 (fun r43 h42 => wL_delay x0 r39 h42 (fun r45 h44 => wL_minutesUntilArrival x0 r39 h44 (fun r47 h46 => wL_sum_L142 K c213  n (b - 1) x0 ((((((31) * x1) + ((1009) * r41.toInt64)) + ((101) * r43.toInt64)) + ((31) * r45.toInt64)) + r47.toInt64) (x3 + (nI 1)) h46))))))))
def wL_sum_L215 (K : Int64 → AH → Prop)   : Nat → Nat → Nat → Int64 → Int32 → AH → Prop
  | 0 => fun _ _ _ _ _ => False
  | n + 1 => fun b x0 x1 x3 h =>
  (((nI 8) ≤ x3 → K x1 h) ∧ (¬ (nI 8) ≤ x3 → (0 < b) ∧ wL_queued x0 x3 h (fun r55 h54 => wL_sum_L215 K   n (b - 1) x0 (((31) * x1) + r55.toInt64) (x3 + (nI 1)) h54)))
def wL_sum (a0 : Nat) (h : AH) (K : Int64 → AH → Prop) : Prop :=
  (isO h a0 0) ∧ wX9_time a0 h (fun r2 h1 => (isO h1 a0 0) ∧ wX9_arrived a0 h1 (fun r4 h3 => (isO h3 a0 0) ∧ wX9_totalDelay a0 h3 (fun r6 h5 => (∃ n59 bn59, bn59 ≤ 12 ∧ wL_sum_L27 K (fun x0_22 x1_23 h24 => (∃ n58 bn58, bn58 ≤ 8 ∧ wL_sum_L104 K (fun x0_31 x1_32 h33 => (∃ n57 bn57, bn57 ≤ 12 ∧ wL_sum_L142 K (fun x0_49 x1_50 h51 => (∃ n56 bn56, bn56 ≤ 8 ∧ wL_sum_L215 K  n56 bn56 x0_49 x1_50 (nI 0) h51)) n57 bn57 x0_31 x1_32 (nI 0) h33)) n58 bn58 x0_22 x1_23 (nI 0) h24)) n59 bn59 a0 ((((1009) * r2.toInt64) + ((101) * r4.toInt64)) + r6) (nI 0) h5))))
def wL_trainOf_J47 (K : Int32 → AH → Prop) (c26 : Nat → Int32 → Int32 → Int32 → Int32 → AH → Prop) (x0 : Nat) (x1 : Int32) (x3 : Int32) (x5 : Int32) (y0 : Int32) (y1 : Int32) (h : AH) : Prop :=
  (((y0 - y1) < nI 0 → c26 x0 x1 x3 (y0 - y1) (x5 + (nI 0)) h) ∧ (¬ (y0 - y1) < nI 0 → c26 x0 x1 x3 (y0 - y1) (x5 + (nI 1)) h))
def wL_trainOf_L26 (K : Int32 → AH → Prop)   : Nat → Nat → Int32 → Int32 → Int32 → Int32 → AH → Prop
  | 0 => fun _ _ _ _ _ _ => False
  | n + 1 => fun x0 x1 x3 x4 x5 h =>
  ((x4 < nI 0 → (isO h x0 0) ∧ wX9_trains x0 h (fun r6 h5 => ((r6 = nI 0 → K x1 h5) ∧ (¬ r6 = nI 0 → ((x3 = nI 0 → K x5 h5) ∧ (¬ x3 = nI 0 → K x1 h5)))))) ∧ (¬ x4 < nI 0 → (isO h x0 0) ∧ wX9_isPresent x0 x5 h (fun r11 h10 => ((r11 = nI 0 → (wL_trainOf_J47 K (wL_trainOf_L26 K   n) x0 x1 x3 x5 x4 (nI 0) h10)) ∧ (¬ r11 = nI 0 → (wL_trainOf_J47 K (wL_trainOf_L26 K   n) x0 x1 x3 x5 x4 (nI 1) h10))))))
def wL_trainOf (a0 : Nat) (a1 : Int32) (a2 : Int32) (a3 : Int32) (h : AH) (K : Int32 → AH → Prop) : Prop :=
  (isO h a0 0) ∧ wX9_trains a0 h (fun r2 h1 => ((r2 = nI 0 → (∃ n15, wL_trainOf_L26 K  n15 a0 a1 a3 (-1) (nI 0) h1)) ∧ (¬ r2 = nI 0 → ((a3 = nI 0 → (isO h1 a0 0) ∧ wX9_trains a0 h1 (fun r18 h17 => (¬ r18 = 0) ∧ (∃ n20, wL_trainOf_L26 K  n20 a0 a1 a3 (a2 - a2 / r18 * r18) (nI 0) h17))) ∧ (¬ a3 = nI 0 → (∃ n22, wL_trainOf_L26 K  n22 a0 a1 a3 (-1) (nI 0) h1))))))
def wL_waiting_L2 (K : Int32 → AH → Prop)   : Nat → Nat → Nat → Int32 → AH → Prop
  | 0 => fun _ _ _ _ => False
  | n + 1 => fun b x0 x1 h =>
  (0 < b) ∧ wL_queued x0 x1 h (fun r3 h2 => ((r3 < nI 0 → K x1 h2) ∧ (¬ r3 < nI 0 → wL_waiting_L2 K   n (b - 1) x0 (x1 + (nI 1)) h2)))
def wL_waiting (a0 : Nat) (h : AH) (K : Int32 → AH → Prop) : Prop :=
  (∃ n5 bn5, bn5 ≤ 9 ∧ wL_waiting_L2 K  n5 bn5 a0 (nI 0) h)
def wJ5_inflateIfNeededFor_a7421 (a0 : Nat) (a1 : Nat) (h : AH) (K : AH → Prop) : Prop :=
  (((nI 1) = nI 0 → K h) ∧ (¬ (nI 1) = nI 0 → (isO h a0 8) ∧ (isSt h a1) ∧ wJ0U_coder a1 h (fun r4 h3 => ((mI h a0 1 = r4 → K h3) ∧ (¬ mI h a0 1 = r4 → False)))))
def wJ0U_getBytes (a0 : Nat) (a1 : Nat) (a2 : Int32) (a3 : Int32) (h : AH) (K : AH → Prop) : Prop :=
  (isSt h a0) ∧ wJ0U_coder a0 h (fun r2 h1 => ((¬ r2 = a3 → False) ∧ (r2 = a3 → (isSt h1 a0) ∧ (isA h1 (mR h1 a0 0) 3) ∧ (isA h1 a1 3) ∧ (nZ ≤ a1) ∧ (¬ (a2 <<< (a3 &&& nI 31)) < 0) ∧ (¬ nI (ln h1 (mR h1 a0 0)) < 0) ∧ ((nI 0).toNatClampNeg + (nI (ln h1 (mR h1 a0 0))).toNatClampNeg ≤ ln h1 (mR h1 a0 0)) ∧ ((a2 <<< (a3 &&& nI 31)).toNatClampNeg + (nI (ln h1 (mR h1 a0 0))).toNatClampNeg ≤ ln h1 a1) ∧ (∀ i, i < (nI (ln h1 (mR h1 a0 0))).toNatClampNeg → fits .byte (.int (mI h1 (mR h1 a0 0) ((nI 0).toNatClampNeg + i))) = true) ∧ ∀ h15, h15 = uA h1 a1 (va_cpy (mI h1 (mR h1 a0 0)) (mI h1 a1) (nI 0).toNatClampNeg (a2 <<< (a3 &&& nI 31)).toNatClampNeg (nI (ln h1 (mR h1 a0 0))).toNatClampNeg) → K h15)))
def wJ5_putStringAt_47b60 (a0 : Nat) (a1 : Int32) (a2 : Nat) (h : AH) (K : AH → Prop) : Prop :=
  (isO h a0 8) ∧ wJ5_inflateIfNeededFor_a7421 a0 a2 h (fun h1 => (isO h1 a0 8) ∧ (isSt h1 a2) ∧ wJ0U_getBytes a2 (mR h1 a0 0) a1 (mI h1 a0 1) h1 (fun h4 => K h4))
def wJ5_append_cf1ce (a0 : Nat) (a1 : Nat) (h : AH) (K : Nat → AH → Prop) : Prop :=
  ((a1 = 0 → False) ∧ (¬ a1 = 0 → (isSt h a1) ∧ wJ0U_length a1 h (fun r3 h2 => (isO h2 a0 8) ∧ wJ5_ensureCapacityInternal_d00df a0 (mI h2 a0 3 + r3) h2 (fun h5 => (isO h5 a0 8) ∧ wJ5_putStringAt_47b60 a0 (mI h5 a0 3) a1 h5 (fun h8 => (isO h8 a0 8) ∧ ∀ h11, h11 = uI h8 a0 3 (mI h8 a0 3 + r3) → K a0 h11)))))
def wJ4_append_15ec4 (a0 : Nat) (a1 : Nat) (h : AH) (K : Nat → AH → Prop) : Prop :=
  (isO h a0 8) ∧ wJ5_append_cf1ce a0 a1 h (fun r2 h1 => K a0 h1)
def wJ5_getValue_6d5f1 (a0 : Nat) (h : AH) (K : Nat → AH → Prop) : Prop :=
  (isO h a0 8) ∧ K (mR h a0 0) h
def wJ7_checkLength_df160 (a0 : Int32) (a1 : Int32) (h : AH) (K : AH → Prop) : Prop :=
  ((a0 ≤ a1 → K h) ∧ (¬ a0 ≤ a1 → False))
def wJ7_copyOfRangeByte_39247 (a0 : Nat) (a1 : Int32) (a2 : Int32) (h : AH) (K : Nat → AH → Prop) : Prop :=
  wJ7_checkLength_df160 a1 a2 h (fun h1 => (¬ (a2 - a1) < 0) ∧ ((a2 - a1).toNatClampNeg ≤ 256) ∧ ∀ h5, h5 = nw h1 103 ((a2 - a1).toNatClampNeg) → (isA h5 a0 3) ∧ (isA h5 (mN h1) 3) ∧ (nZ ≤ a0) ∧ (nZ ≤ (mN h1)) ∧ (¬ a1 < 0) ∧ (¬ (if (a2 - a1) < (nI (ln h5 a0) - a1) then (a2 - a1) else (nI (ln h5 a0) - a1)) < 0) ∧ (a1.toNatClampNeg + (if (a2 - a1) < (nI (ln h5 a0) - a1) then (a2 - a1) else (nI (ln h5 a0) - a1)).toNatClampNeg ≤ ln h5 a0) ∧ ((nI 0).toNatClampNeg + (if (a2 - a1) < (nI (ln h5 a0) - a1) then (a2 - a1) else (nI (ln h5 a0) - a1)).toNatClampNeg ≤ ln h5 (mN h1)) ∧ (∀ i, i < (if (a2 - a1) < (nI (ln h5 a0) - a1) then (a2 - a1) else (nI (ln h5 a0) - a1)).toNatClampNeg → fits .byte (.int (mI h5 a0 (a1.toNatClampNeg + i))) = true) ∧ ∀ h15, h15 = uA h5 (mN h1) (va_cpy (mI h5 a0) (mI h5 (mN h1)) a1.toNatClampNeg (nI 0).toNatClampNeg (if (a2 - a1) < (nI (ln h5 a0) - a1) then (a2 - a1) else (nI (ln h5 a0) - a1)).toNatClampNeg) → K (mN h1) h15)
def wJ7_copyOfRange_39247_J10 (K : Nat → AH → Prop)  (x0 : Nat) (x1 : Int32) (x2 : Int32) (h : AH) : Prop :=
  wJ7_copyOfRangeByte_39247 x0 x1 x2 h (fun r3 h2 => K r3 h2)
def wJ7_copyOfRange_39247 (a0 : Nat) (a1 : Int32) (a2 : Int32) (h : AH) (K : Nat → AH → Prop) : Prop :=
  ((¬ a1 = nI 0 → (wJ7_copyOfRange_39247_J10 K a0 a1 a2 h)) ∧ (a1 = nI 0 → (isA h a0 3) ∧ ((a2 = nI (ln h a0) → False) ∧ (¬ a2 = nI (ln h a0) → (wJ7_copyOfRange_39247_J10 K a0 a1 a2 h)))))
def wJ0_init_db425_J79 (K : AH → Prop)  (x0 : Nat) (x3 : Nat) (x4 : Int32) (h : AH) : Prop :=
  (isO h x0 7) ∧ ∀ h11, h11 = uI h x0 1 (nI 1) → wJ7_copyOfRange_39247 x3 (nI 0) (x4 <<< ((nI 1) &&& nI 31)) h11 (fun r13 h12 => (isO h12 x0 7) ∧ ∀ h15, h15 = uR h12 x0 0 r13 → K h15)
def wJ0_init_db425 (a0 : Nat) (a1 : Nat) (a2 : Nat) (h : AH) (K : AH → Prop) : Prop :=
  (¬ a0 = 0) ∧ (isO h a1 8) ∧ wJ5_getValue_6d5f1 a1 h (fun r3 h2 => (isO h2 a1 8) ∧ wJ4_length_8abf5 a1 h2 (fun r5 h4 => (isO h4 a1 8) ∧ wJ5_isLatin1_aae02 a1 h4 (fun r7 h6 => ((r7 = nI 0 → (((nI 1) = nI 0 → (wJ0_init_db425_J79 K a0 r3 r5 h6)) ∧ (¬ (nI 1) = nI 0 → (isO h6 a1 8) ∧ ((mI h6 a1 2 = nI 0 → (wJ0_init_db425_J79 K a0 r3 r5 h6)) ∧ (¬ mI h6 a1 2 = nI 0 → False))))) ∧ (¬ r7 = nI 0 → (isO h6 a0 7) ∧ ∀ h19, h19 = uI h6 a0 1 (nI 0) → wJ7_copyOfRange_39247 r3 (nI 0) r5 h19 (fun r21 h20 => (isO h20 a0 7) ∧ ∀ h23, h23 = uR h20 a0 0 r21 → K h23))))))
def wJ0_init_81219 (a0 : Nat) (a1 : Nat) (h : AH) (K : AH → Prop) : Prop :=
  (¬ a0 = 0) ∧ wJ0_init_db425 a0 a1 0 h (fun h1 => K h1)
def wJ4_toString_0e30d (a0 : Nat) (h : AH) (K : Nat → AH → Prop) : Prop :=
  ∀ h1, h1 = nw h 8 0 → (¬ mN h = 0) ∧ wJ0_init_81219 (mN h) a0 h1 (fun h2 => K (mN h) h2)
def wL_does_J305 (K : Int32 → AH → Prop)  (y0 : Nat) (y1 : Int32) (h : AH) : Prop :=
  wL_addBlock y0 y1 h (fun r15 h14 => K r15 h14)
def wL_does_J493 (K : Int32 → AH → Prop)  (y0 : Nat) (y1 : Nat) (y2 : Nat) (h : AH) : Prop :=
  (isO h y1 8) ∧ wJ4_append_15ec4 y1 y2 h (fun r86 h85 => (isO h85 r86 8) ∧ wJ4_toString_0e30d r86 h85 (fun r88 h87 => wL_runs y0 r88 h87 (fun r90 h89 => K r90 h89)))
def wL_does_J47 (K : Int32 → AH → Prop)  (x2 : Int32) (x3 : Nat) (x4 : Int32) (x5 : Int32) (x6 : Int32) (x7 : Int32) (y0 : Int32) (y1 : Int32) (h : AH) : Prop :=
  (¬ (y0 + y1) = 0) ∧ ∀ v9 : Int32, v9 = ((x7 / (nI 12)) - (x7 / (nI 12)) / (y0 + y1) * (y0 + y1)) → ∀ v11 : Int32, v11 = ((x7 / (nI 144)) - (x7 / (nI 144)) / (y0 + y1) * (y0 + y1)) → ((x2 = (nI 0) → ((¬ (x6 - x6 / (nI 19) * (nI 19)) = nI 0 → (wL_does_J305 K x3 ((nI 1) + (x6 - x6 / (nI 9) * (nI 9))) h)) ∧ ((x6 - x6 / (nI 19) * (nI 19)) = nI 0 → (wL_does_J305 K x3 (nI 10) h)))) ∧ (x2 = (nI 1) → ((¬ (x6 - x6 / (nI 19) * (nI 19)) = nI 0 → (wL_does_J305 K x3 ((nI 1) + (x6 - x6 / (nI 9) * (nI 9))) h)) ∧ ((x6 - x6 / (nI 19) * (nI 19)) = nI 0 → (wL_does_J305 K x3 (nI 10) h)))) ∧ (x2 = (nI 2) → wL_addPoint x3 (x7 - x7 / (y0 + y1) * (y0 + y1)) v9 v11 h (fun r18 h17 => K r18 h17)) ∧ (x2 = (nI 3) → wL_addPoint x3 (x7 - x7 / (y0 + y1) * (y0 + y1)) v9 v11 h (fun r20 h19 => K r20 h19)) ∧ (x2 = (nI 4) → wL_addPoint x3 (x7 - x7 / (y0 + y1) * (y0 + y1)) v9 v11 h (fun r22 h21 => K r22 h21)) ∧ (x2 = (nI 5) → wL_addPoint x3 (x7 - x7 / (y0 + y1) * (y0 + y1)) v9 v11 h (fun r24 h23 => K r24 h23)) ∧ (x2 = (nI 6) → wL_addLink x3 (x7 - x7 / (y0 + y1) * (y0 + y1)) v9 h (fun r26 h25 => K r26 h25)) ∧ (x2 = (nI 7) → wL_addLink x3 (x7 - x7 / (y0 + y1) * (y0 + y1)) v9 h (fun r28 h27 => K r28 h27)) ∧ (x2 = (nI 8) → wL_addLink x3 (x7 - x7 / (y0 + y1) * (y0 + y1)) v9 h (fun r30 h29 => K r30 h29)) ∧ (x2 = (nI 9) → wL_addLink x3 (x7 - x7 / (y0 + y1) * (y0 + y1)) v9 h (fun r32 h31 => K r32 h31)) ∧ (x2 = (nI 10) → wL_addLink x3 (x7 - x7 / (y0 + y1) * (y0 + y1)) v9 h (fun r34 h33 => K r34 h33)) ∧ (x2 = (nI 11) → wL_shut x3 (x7 - x7 / (y0 + y1) * (y0 + y1)) h (fun r36 h35 => K r36 h35)) ∧ (x2 = (nI 12) → wL_open x3 (x7 - x7 / (y0 + y1) * (y0 + y1)) h (fun r38 h37 => K r38 h37)) ∧ (x2 = (nI 13) → wL_throwPoint x3 (x6 - x6 / (nI 8) * (nI 8)) h (fun r40 h39 => K r40 h39)) ∧ (x2 = (nI 14) → wL_addTrain x3 (x7 - x7 / (y0 + y1) * (y0 + y1)) v9 h (fun r42 h41 => K r42 h41)) ∧ (x2 = (nI 15) → wL_addTrain x3 (x7 - x7 / (y0 + y1) * (y0 + y1)) v9 h (fun r44 h43 => K r44 h43)) ∧ (x2 = (nI 16) → wL_addTrain x3 (x7 - x7 / (y0 + y1) * (y0 + y1)) v9 h (fun r46 h45 => K r46 h45)) ∧ (x2 = (nI 17) → wL_addTrain x3 (x7 - x7 / (y0 + y1) * (y0 + y1)) v9 h (fun r48 h47 => K r48 h47)) ∧ (x2 = (nI 18) → wL_addTrain x3 (x7 - x7 / (y0 + y1) * (y0 + y1)) v9 h (fun r50 h49 => K r50 h49)) ∧ (x2 = (nI 19) → wL_addTrain x3 (x7 - x7 / (y0 + y1) * (y0 + y1)) v9 h (fun r52 h51 => K r52 h51)) ∧ (x2 = (nI 20) → wL_addTrain x3 (x7 - x7 / (y0 + y1) * (y0 + y1)) v9 h (fun r54 h53 => K r54 h53)) ∧ (x2 = (nI 21) → wL_addTrain x3 (x7 - x7 / (y0 + y1) * (y0 + y1)) v9 h (fun r56 h55 => K r56 h55)) ∧ (x2 = (nI 22) → wL_setRoute x3 x4 h (fun r58 h57 => K r58 h57)) ∧ (x2 = (nI 23) → wL_setRoute x3 x4 h (fun r60 h59 => K r60 h59)) ∧ (x2 = (nI 24) → wL_setRoute x3 x4 h (fun r62 h61 => K r62 h61)) ∧ (x2 = (nI 25) → wL_setRoute x3 x4 h (fun r64 h63 => K r64 h63)) ∧ (x2 = (nI 26) → wL_setRoute x3 x4 h (fun r66 h65 => K r66 h65)) ∧ (x2 = (nI 27) → wL_setRoute x3 x4 h (fun r68 h67 => K r68 h67)) ∧ (x2 = (nI 28) → wL_releaseRoute x3 x4 h (fun r70 h69 => K r70 h69)) ∧ (x2 = (nI 29) → wL_releaseRoute x3 x4 h (fun r72 h71 => K r72 h71)) ∧ (x2 = (nI 30) → wL_releaseRoute x3 x4 h (fun r74 h73 => K r74 h73)) ∧ (x2 = (nI 46) → ∀ h75, h75 = nw h 9 0 → (¬ mN h = 0) ∧ wJ4_init_da8c8 (mN h) h75 (fun h76 => (isO h76 (mN h) 8) ∧ wJ4_append_15ec4 (mN h) 38 h76 (fun r79 h78 => (isO h78 r79 8) ∧ wJ4_append_bf812 r79 x5 h78 (fun r81 h80 => ((¬ (x6 - x6 / (nI 4) * (nI 4)) = nI 0 → ((¬ (x6 - x6 / (nI 4) * (nI 4)) = (nI 1) → ((¬ (x6 - x6 / (nI 4) * (nI 4)) = (nI 2) → (wL_does_J493 K x3 r81 46 h80)) ∧ ((x6 - x6 / (nI 4) * (nI 4)) = (nI 2) → ∀ h93, h93 = nw h80 9 0 → (¬ mN h80 = 0) ∧ wJ4_init_da8c8 (mN h80) h93 (fun h94 => (isO h94 (mN h80) 8) ∧ wJ4_append_15ec4 (mN h80) 44 h94 (fun r97 h96 => (isO h96 r97 8) ∧ wJ4_append_bf812 r97 (x7 - x7 / (y0 + y1) * (y0 + y1)) h96 (fun r99 h98 => (isO h98 r99 8) ∧ wJ4_toString_0e30d r99 h98 (fun r101 h100 => (wL_does_J493 K x3 r81 r101 h100)))))))) ∧ ((x6 - x6 / (nI 4) * (nI 4)) = (nI 1) → ∀ h106, h106 = nw h80 9 0 → (¬ mN h80 = 0) ∧ wJ4_init_da8c8 (mN h80) h106 (fun h107 => (isO h107 (mN h80) 8) ∧ wJ4_append_15ec4 (mN h80) 42 h107 (fun r110 h109 => (isO h109 r110 8) ∧ wJ4_append_bf812 r110 x4 h109 (fun r112 h111 => (isO h111 r112 8) ∧ wJ4_toString_0e30d r112 h111 (fun r114 h113 => (wL_does_J493 K x3 r81 r114 h113)))))))) ∧ ((x6 - x6 / (nI 4) * (nI 4)) = nI 0 → ∀ h119, h119 = nw h80 9 0 → (¬ mN h80 = 0) ∧ wJ4_init_da8c8 (mN h80) h119 (fun h120 => (isO h120 (mN h80) 8) ∧ wJ4_append_15ec4 (mN h80) 40 h120 (fun r123 h122 => (isO h122 r123 8) ∧ wJ4_append_bf812 r123 x4 h122 (fun r125 h124 => (isO h124 r125 8) ∧ wJ4_toString_0e30d r125 h124 (fun r127 h126 => (wL_does_J493 K x3 r81 r127 h126))))))))))) ∧ (x2 = (nI 47) → ∀ h135, h135 = nw h 9 0 → (¬ mN h = 0) ∧ wJ4_init_da8c8 (mN h) h135 (fun h136 => (isO h136 (mN h) 8) ∧ wJ4_append_15ec4 (mN h) 38 h136 (fun r139 h138 => (isO h138 r139 8) ∧ wJ4_append_bf812 r139 x5 h138 (fun r141 h140 => ((¬ (x6 - x6 / (nI 4) * (nI 4)) = nI 0 → ((¬ (x6 - x6 / (nI 4) * (nI 4)) = (nI 1) → ((¬ (x6 - x6 / (nI 4) * (nI 4)) = (nI 2) → (wL_does_J493 K x3 r141 46 h140)) ∧ ((x6 - x6 / (nI 4) * (nI 4)) = (nI 2) → ∀ h145, h145 = nw h140 9 0 → (¬ mN h140 = 0) ∧ wJ4_init_da8c8 (mN h140) h145 (fun h146 => (isO h146 (mN h140) 8) ∧ wJ4_append_15ec4 (mN h140) 44 h146 (fun r149 h148 => (isO h148 r149 8) ∧ wJ4_append_bf812 r149 (x7 - x7 / (y0 + y1) * (y0 + y1)) h148 (fun r151 h150 => (isO h150 r151 8) ∧ wJ4_toString_0e30d r151 h150 (fun r153 h152 => (wL_does_J493 K x3 r141 r153 h152)))))))) ∧ ((x6 - x6 / (nI 4) * (nI 4)) = (nI 1) → ∀ h158, h158 = nw h140 9 0 → (¬ mN h140 = 0) ∧ wJ4_init_da8c8 (mN h140) h158 (fun h159 => (isO h159 (mN h140) 8) ∧ wJ4_append_15ec4 (mN h140) 42 h159 (fun r162 h161 => (isO h161 r162 8) ∧ wJ4_append_bf812 r162 x4 h161 (fun r164 h163 => (isO h163 r164 8) ∧ wJ4_toString_0e30d r164 h163 (fun r166 h165 => (wL_does_J493 K x3 r141 r166 h165)))))))) ∧ ((x6 - x6 / (nI 4) * (nI 4)) = nI 0 → ∀ h171, h171 = nw h140 9 0 → (¬ mN h140 = 0) ∧ wJ4_init_da8c8 (mN h140) h171 (fun h172 => (isO h172 (mN h140) 8) ∧ wJ4_append_15ec4 (mN h140) 40 h172 (fun r175 h174 => (isO h174 r175 8) ∧ wJ4_append_bf812 r175 x4 h174 (fun r177 h176 => (isO h176 r177 8) ∧ wJ4_toString_0e30d r177 h176 (fun r179 h178 => (wL_does_J493 K x3 r141 r179 h178))))))))))) ∧ (¬ x2 = (nI 0) ∧ ¬ x2 = (nI 1) ∧ ¬ x2 = (nI 2) ∧ ¬ x2 = (nI 3) ∧ ¬ x2 = (nI 4) ∧ ¬ x2 = (nI 5) ∧ ¬ x2 = (nI 6) ∧ ¬ x2 = (nI 7) ∧ ¬ x2 = (nI 8) ∧ ¬ x2 = (nI 9) ∧ ¬ x2 = (nI 10) ∧ ¬ x2 = (nI 11) ∧ ¬ x2 = (nI 12) ∧ ¬ x2 = (nI 13) ∧ ¬ x2 = (nI 14) ∧ ¬ x2 = (nI 15) ∧ ¬ x2 = (nI 16) ∧ ¬ x2 = (nI 17) ∧ ¬ x2 = (nI 18) ∧ ¬ x2 = (nI 19) ∧ ¬ x2 = (nI 20) ∧ ¬ x2 = (nI 21) ∧ ¬ x2 = (nI 22) ∧ ¬ x2 = (nI 23) ∧ ¬ x2 = (nI 24) ∧ ¬ x2 = (nI 25) ∧ ¬ x2 = (nI 26) ∧ ¬ x2 = (nI 27) ∧ ¬ x2 = (nI 28) ∧ ¬ x2 = (nI 29) ∧ ¬ x2 = (nI 30) ∧ ¬ x2 = (nI 46) ∧ ¬ x2 = (nI 47) → wL_pass x3 x5 h (fun r188 h187 => K r188 h187)))
def wL_does_J42 (K : Int32 → AH → Prop)  (x2 : Int32) (x3 : Nat) (x4 : Int32) (x5 : Int32) (x6 : Int32) (x7 : Int32) (y0 : Int32) (h : AH) : Prop :=
  (wL_does_J47 K x2 x3 x4 x5 x6 x7 y0 (nI 1) h)
def wL_does (a0 : Nat) (a1 : Int32) (a2 : Int32) (a3 : Nat) (a4 : Int32) (a5 : Int32) (h : AH) (K : Int32 → AH → Prop) : Prop :=
  wL_pick a0 (a1 + (nI 3)) (nI 1000) h (fun r2 h1 => wL_pick a0 (a1 + (nI 4)) (nI 100000) h1 (fun r4 h3 => (isO h3 a3 0) ∧ wX9_blocks a3 h3 (fun r6 h5 => (((r2 - r2 / (nI 23) * (nI 23)) = nI 0 → (wL_does_J42 K a2 a3 a4 a5 r2 r4 r6 h5)) ∧ (¬ (r2 - r2 / (nI 23) * (nI 23)) = nI 0 → (isO h5 a3 0) ∧ wX9_blocks a3 h5 (fun r190 h189 => ((¬ r190 = nI 0 → (wL_does_J47 K a2 a3 a4 a5 r2 r4 r6 (nI 0) h189)) ∧ (r190 = nI 0 → (wL_does_J42 K a2 a3 a4 a5 r2 r4 r6 h189)))))))))
def wL_isTrain_J87 (K : Int32 → AH → Prop) (c5 : Nat → Int32 → Int32 → Int32 → Int32 → AH → Prop) (x0 : Nat) (x1 : Int32) (x2 : Int32) (x3 : Int32) (x4 : Int32) (x6 : Int32) (y0 : Int32) (y1 : Int32) (h : AH) : Prop :=
  ((¬ y0 = y1 → K (nI 0) h) ∧ (y0 = y1 → wL_conflict x0 x4 x1 h (fun r15 h14 => ((x6 = r15 → c5 x0 x1 x2 x3 (x4 + (nI 1)) h14) ∧ (¬ x6 = r15 → K (nI 0) h14)))))
def wL_isTrain_J76 (K : Int32 → AH → Prop) (c5 : Nat → Int32 → Int32 → Int32 → Int32 → AH → Prop) (x0 : Nat) (x1 : Int32) (x2 : Int32) (x3 : Int32) (x4 : Int32) (x6 : Int32) (y0 : Int32) (h : AH) : Prop :=
  ((¬ x4 = x1 → (wL_isTrain_J87 K c5 x0 x1 x2 x3 x4 x6 y0 (nI 0) h)) ∧ (x4 = x1 → (wL_isTrain_J87 K c5 x0 x1 x2 x3 x4 x6 y0 (nI 1) h)))
def wL_isTrain_J64 (K : Int32 → AH → Prop) (c5 : Nat → Int32 → Int32 → Int32 → Int32 → AH → Prop) (x0 : Nat) (x1 : Int32) (x2 : Int32) (x3 : Int32) (x4 : Int32) (x6 : Int32) (h : AH) : Prop :=
  ((¬ x6 = (-78) → (wL_isTrain_J76 K c5 x0 x1 x2 x3 x4 x6 (nI 0) h)) ∧ (x6 = (-78) → (wL_isTrain_J76 K c5 x0 x1 x2 x3 x4 x6 (nI 1) h)))
def wL_isTrain_L5 (K : Int32 → AH → Prop) (c110 : Nat → Int32 → Int32 → AH → Prop)  : Nat → Nat → Nat → Int32 → Int32 → Int32 → Int32 → AH → Prop
  | 0 => fun _ _ _ _ _ _ _ => False
  | n + 1 => fun b x0 x1 x2 x3 x4 h =>
  ((x2 ≤ x4 → c110 x0 x1 x3 h) ∧ (¬ x2 ≤ x4 → (isO h x0 0) ∧ wX9_isPresent x0 x4 h (fun r3 h2 => ((r3 = nI 0 → wL_isTrain_L5 K c110  n b x0 x1 x2 x3 (x4 + (nI 1)) h2) ∧ (¬ r3 = nI 0 → (0 < b) ∧ wL_waitsFor x0 x1 x4 h2 (fun r7 h6 => wL_conflict x0 x1 x4 h6 (fun r9 h8 => ((¬ r7 = (nI 1) → (wL_isTrain_J64 K (wL_isTrain_L5 K c110  n (b - 1)) x0 x1 x2 (x3 + r7) x4 r9 h8)) ∧ (r7 = (nI 1) → ((x4 = x1 → K (nI 0) h8) ∧ (¬ x4 = x1 → wL_hasRoute x0 x1 h8 (fun r19 h18 => ((r19 = (nI 1) → K (nI 0) h18) ∧ (¬ r19 = (nI 1) → (wL_isTrain_J64 K (wL_isTrain_L5 K c110  n (b - 1)) x0 x1 x2 (x3 + r7) x4 r9 h18)))))))))))))))
def wL_isTrain_J303 (K : Int32 → AH → Prop)  (x0 : Nat) (x1 : Int32) (x5 : Int32) (x7 : Int32) (y0 : Int32) (h : AH) : Prop :=
  wL_writeTrain x0 x1 h (fun r48 h47 => ((x5 = nI 0 → K (nI 0) h47) ∧ (¬ x5 = nI 0 → ((x7 = nI 0 → K (nI 0) h47) ∧ (¬ x7 = nI 0 → ((y0 = nI 0 → K (nI 0) h47) ∧ (¬ y0 = nI 0 → wL_delay x0 x1 h47 (fun r53 h52 => ((r53 < nI 0 → K (nI 0) h52) ∧ (¬ r53 < nI 0 → ((r48 < (nI 5) → K (nI 0) h52) ∧ (¬ r48 < (nI 5) → K (nI 1) h52))))))))))))
def wL_isTrain_J302 (K : Int32 → AH → Prop)  (x0 : Nat) (x1 : Int32) (x5 : Int32) (x7 : Int32) (h : AH) : Prop :=
  (wL_isTrain_J303 K x0 x1 x5 x7 (nI 0) h)
def wL_isTrain_J277 (K : Int32 → AH → Prop)  (x0 : Nat) (x1 : Int32) (x5 : Int32) (x7 : Int32) (h : AH) : Prop :=
  (wL_isTrain_J303 K x0 x1 x5 x7 (nI 0) h)
def wL_isTrain_J230 (K : Int32 → AH → Prop)  (x0 : Nat) (x1 : Int32) (x4 : Int32) (x5 : Int32) (y0 : Int32) (h : AH) : Prop :=
  wL_minutesUntilArrival x0 x1 h (fun r44 h43 => ((x4 = nI 0 → ((¬ r44 = (-75) → (wL_isTrain_J302 K x0 x1 x5 y0 h43)) ∧ (r44 = (-75) → wL_minutesUntilNext x0 x1 h43 (fun r57 h56 => ((¬ r57 = (-75) → (wL_isTrain_J302 K x0 x1 x5 y0 h56)) ∧ (r57 = (-75) → (wL_isTrain_J303 K x0 x1 x5 y0 (nI 1) h56))))))) ∧ (¬ x4 = nI 0 → wL_minutesUntilNext x0 x1 h43 (fun r60 h59 => ((r44 < r60 → (wL_isTrain_J277 K x0 x1 x5 y0 h59)) ∧ (¬ r44 < r60 → wL_minutesUntilNext x0 x1 h59 (fun r63 h62 => ((r63 < (nI 1) → (wL_isTrain_J277 K x0 x1 x5 y0 h62)) ∧ (¬ r63 < (nI 1) → wL_minutesUntilArrivalByPassing x0 x1 h62 (fun r66 h65 => ((¬ r66 = r44 → (wL_isTrain_J277 K x0 x1 x5 y0 h65)) ∧ (r66 = r44 → (wL_isTrain_J303 K x0 x1 x5 y0 (nI 1) h65)))))))))))))
def wL_isTrain_J225 (K : Int32 → AH → Prop)  (x0 : Nat) (x1 : Int32) (x4 : Int32) (x5 : Int32) (h : AH) : Prop :=
  (wL_isTrain_J230 K x0 x1 x4 x5 (nI 1) h)
def wL_isTrain_J229 (K : Int32 → AH → Prop)  (x0 : Nat) (x1 : Int32) (x4 : Int32) (x5 : Int32) (h : AH) : Prop :=
  (wL_isTrain_J230 K x0 x1 x4 x5 (nI 0) h)
def wL_isTrain_J185 (K : Int32 → AH → Prop)  (x0 : Nat) (x1 : Int32) (x3 : Int32) (x4 : Int32) (y0 : Int32) (h : AH) : Prop :=
  wL_blockOf x0 x1 h (fun r35 h34 => wL_destination x0 x1 h34 (fun r37 h36 => wL_routeLength x0 r35 r37 h36 (fun r39 h38 => wL_isClear x0 x1 h38 (fun r41 h40 => ((r41 = nI 0 → (wL_isTrain_J225 K x0 x1 x4 y0 h40)) ∧ (¬ r41 = nI 0 → ((¬ x4 = nI 0 → (wL_isTrain_J229 K x0 x1 x4 y0 h40)) ∧ (x4 = nI 0 → ((r39 < nI 0 → (wL_isTrain_J229 K x0 x1 x4 y0 h40)) ∧ (¬ r39 < nI 0 → ((¬ x3 = nI 0 → (wL_isTrain_J229 K x0 x1 x4 y0 h40)) ∧ (x3 = nI 0 → (wL_isTrain_J225 K x0 x1 x4 y0 h40)))))))))))))
def wL_isTrain_J184 (K : Int32 → AH → Prop)  (x0 : Nat) (x1 : Int32) (x3 : Int32) (x4 : Int32) (h : AH) : Prop :=
  (wL_isTrain_J185 K x0 x1 x3 x4 (nI 0) h)
def wL_isTrain_J124 (K : Int32 → AH → Prop)  (x0 : Nat) (x1 : Int32) (x3 : Int32) (y0 : Int32) (h : AH) : Prop :=
  wL_blockOf x0 x1 h (fun r30 h29 => wL_trainAt x0 r30 h29 (fun r32 h31 => ((¬ r32 = x1 → (wL_isTrain_J184 K x0 x1 x3 y0 h31)) ∧ (r32 = x1 → wL_blockOf x0 x1 h31 (fun r72 h71 => wL_blockState x0 r72 h71 (fun r74 h73 => ((r74 = (nI 102) → (wL_isTrain_J184 K x0 x1 x3 y0 h73)) ∧ (¬ r74 = (nI 102) → wL_blockOf x0 x1 h73 (fun r77 h76 => wL_blockState x0 r77 h76 (fun r79 h78 => ((r79 = (nI 114) → (wL_isTrain_J184 K x0 x1 x3 y0 h78)) ∧ (¬ r79 = (nI 114) → wL_blockOf x0 x1 h78 (fun r82 h81 => wL_destination x0 x1 h81 (fun r84 h83 => ((r82 = r84 → (wL_isTrain_J184 K x0 x1 x3 y0 h83)) ∧ (¬ r82 = r84 → (wL_isTrain_J185 K x0 x1 x3 y0 (nI 1) h83)))))))))))))))))
def wL_isTrain (a0 : Nat) (a1 : Int32) (a2 : Int32) (h : AH) (K : Int32 → AH → Prop) : Prop :=
  (∃ n86 bn86, bn86 ≤ 8 ∧ wL_isTrain_L5 K (fun x0_22 x1_23 x3_24 h25 => wL_hasRoute x0_22 x1_23 h25 (fun r27 h26 => ((¬ r27 = (nI 1) → (wL_isTrain_J124 K x0_22 x1_23 x3_24 (nI 0) h26)) ∧ (r27 = (nI 1) → (wL_isTrain_J124 K x0_22 x1_23 x3_24 (nI 1) h26))))) n86 bn86 a0 a1 a2 (nI 0) (nI 0) h)
def wL_isRoute_L70 (K : Int32 → AH → Prop)   : Nat → Nat → Nat → Int32 → Int32 → Int32 → Int32 → Int32 → Int32 → Int32 → AH → Prop
  | 0 => fun _ _ _ _ _ _ _ _ _ _ => False
  | n + 1 => fun b x0 x1 x2 x3 x4 x5 x6 x7 h =>
  (0 < b) ∧ wL_routeBlock x0 x1 x2 (x7 + (nI 1)) h (fun r8 h7 => ((r8 < nI 0 → ((x4 < (nI 1) → K (nI 0) h7) ∧ (¬ x4 < (nI 1) → ((¬ x5 = x3 → K (nI 0) h7) ∧ (x5 = x3 → wL_routeBlock x0 x1 x2 x7 h7 (fun r13 h12 => ((¬ r13 = x2 → K (nI 0) h12) ∧ (r13 = x2 → wL_routeBlock x0 x1 x2 (nI 0) h12 (fun r16 h15 => ((¬ r16 = x1 → K (nI 0) h15) ∧ (r16 = x1 → wL_routeLengthByPaths x0 x1 x2 h15 (fun r19 h18 => ((¬ r19 = x3 → K (nI 0) h18) ∧ (r19 = x3 → ((¬ x1 = x2 → K (nI 1) h18) ∧ (x1 = x2 → ((¬ x3 = nI 0 → K (nI 0) h18) ∧ (x3 = nI 0 → ((¬ x4 = (nI 1) → K (nI 0) h18) ∧ (x4 = (nI 1) → K (nI 1) h18)))))))))))))))))))) ∧ (¬ r8 < nI 0 → wL_routeBlock x0 x1 x2 x7 h7 (fun r25 h24 => wL_routeBlock x0 x1 x2 (x7 + (nI 1)) h24 (fun r27 h26 => ((((x6 >>> (r27 &&& nI 31)) &&& (nI 1)) = (nI 1) → K (nI 0) h26) ∧ (¬ ((x6 >>> (r27 &&& nI 31)) &&& (nI 1)) = (nI 1) → wL_paths x0 r25 r27 h26 (fun r30 h29 => ((r30 < (nI 1) → K (nI 0) h29) ∧ (¬ r30 < (nI 1) → wL_routeLength x0 r25 x2 h29 (fun r33 h32 => ((r33 = (x3 - x5) → ∀ v35 : Int32, v35 = (x6 ||| ((nI 1) <<< (r27 &&& nI 31))) → wL_blockLength x0 r27 h32 (fun r38 h37 => wL_isRoute_L70 K   n (b - 1) x0 x1 x2 x3 x4 (x5 + r38) v35 (x7 + (nI 1)) h37)) ∧ (¬ r33 = (x3 - x5) → K (nI 0) h32)))))))))))))
def wL_isRoute (a0 : Nat) (a1 : Int32) (a2 : Int32) (h : AH) (K : Int32 → AH → Prop) : Prop :=
  wL_routeLength a0 a1 a2 h (fun r2 h1 => wL_paths a0 a1 a2 h1 (fun r4 h3 => ((nI 0 ≤ r2 → (∃ n39 bn39, bn39 ≤ 12 ∧ wL_isRoute_L70 K  n39 bn39 a0 a1 a2 r2 r4 (nI 0) ((nI 1) <<< (a1 &&& nI 31)) (nI 0) h3)) ∧ (¬ nI 0 ≤ r2 → ((¬ r2 = (-75) → K (nI 0) h3) ∧ (r2 = (-75) → ((¬ r4 = nI 0 → K (nI 0) h3) ∧ (r4 = nI 0 → wL_routeLengthByPaths a0 a1 a2 h3 (fun r43 h42 => ((¬ r43 = (-75) → K (nI 0) h42) ∧ (r43 = (-75) → wL_routeBlock a0 a1 a2 (nI 0) h42 (fun r46 h45 => ((¬ r46 = (-75) → K (nI 0) h45) ∧ (r46 = (-75) → K (nI 1) h45))))))))))))))
def wL_isWhole_J79 (K : Int32 → AH → Prop) (c18 : Nat → Nat → Int32 → Int32 → Int32 → Int32 → Int32 → Int32 → Int64 → Int32 → AH → Prop) (x0 : Nat) (x1 : Nat) (x2 : Int32) (x3 : Int32) (x4 : Int32) (x5 : Int32) (x6 : Int32) (x7 : Int32) (x8 : Int64) (x10 : Int32) (h : AH) : Prop :=
  wL_isTrain x0 x10 x3 h (fun r14 h13 => ((¬ r14 = nI 0 → c18 x0 x1 x2 x3 x4 x5 x6 x7 x8 (x10 + (nI 1)) h13) ∧ (r14 = nI 0 → K (nI 0) h13)))
def wL_isWhole_L18 (K : Int32 → AH → Prop) (c97 : Nat → Nat → Int32 → Int32 → Int32 → Int32 → Int32 → Int32 → Int64 → AH → Prop)  : Nat → Nat → Nat → Nat → Int32 → Int32 → Int32 → Int32 → Int32 → Int32 → Int64 → Int32 → AH → Prop
  | 0 => fun _ _ _ _ _ _ _ _ _ _ _ _ => False
  | n + 1 => fun b x0 x1 x2 x3 x4 x5 x6 x7 x8 x10 h =>
  ((x3 ≤ x10 → c97 x0 x1 x2 x3 x4 x5 x6 x7 x8 h) ∧ (¬ x3 ≤ x10 → (isO h x0 0) ∧ wX9_isPresent x0 x10 h (fun r5 h4 => ((r5 = nI 0 → wL_isWhole_L18 K c97  n b x0 x1 x2 x3 x4 x5 x6 x7 x8 (x10 + (nI 1)) h4) ∧ (¬ r5 = nI 0 → (0 < b) ∧ wL_hasRoute x0 x10 h4 (fun r9 h8 => wL_delay x0 x10 h8 (fun r11 h10 => ((¬ x4 = nI 0 → (wL_isWhole_J79 K (wL_isWhole_L18 K c97  n (b - 1)) x0 x1 x2 x3 x4 x5 (x6 + (nI 1)) (x7 + r9) (x8 + r11.toInt64) x10 h10)) ∧ (x4 = nI 0 → wL_pick x1 (x2 + (nI 1)) (nI 3) h10 (fun r17 h16 => ((¬ (x10 - x10 / (nI 3) * (nI 3)) = r17 → wL_isWhole_L18 K c97  n (b - 1) x0 x1 x2 x3 x4 x5 (x6 + (nI 1)) (x7 + r9) (x8 + r11.toInt64) (x10 + (nI 1)) h16) ∧ ((x10 - x10 / (nI 3) * (nI 3)) = r17 → (wL_isWhole_J79 K (wL_isWhole_L18 K c97  n (b - 1)) x0 x1 x2 x3 x4 x5 (x6 + (nI 1)) (x7 + r9) (x8 + r11.toInt64) x10 h16)))))))))))))
def wL_isWhole_J243 (K : Int32 → AH → Prop) (c106 : Nat → Nat → Int32 → Int32 → Int32 → Int32 → Int32 → Int32 → Int64 → Int32 → Int32 → Int32 → AH → Prop) (x0 : Nat) (x1 : Nat) (x2 : Int32) (x3 : Int32) (x4 : Int32) (x5 : Int32) (x6 : Int32) (x7 : Int32) (x8 : Int64) (x10 : Int32) (x11 : Int32) (x12 : Int32) (x13 : Int32) (y0 : Int32) (h : AH) : Prop :=
  ((y0 = nI 0 → K (nI 0) h) ∧ (¬ y0 = nI 0 → ((x13 < nI 0 → c106 x0 x1 x2 x3 x4 x5 x6 x7 x8 x10 x11 (x12 + (nI 1)) h) ∧ (¬ x13 < nI 0 → wL_blockOf x0 x13 h (fun r42 h41 => ((r42 = x12 → c106 x0 x1 x2 x3 x4 x5 x6 x7 x8 x10 x11 (x12 + (nI 1)) h41) ∧ (¬ r42 = x12 → wL_hasRoute x0 x13 h41 (fun r45 h44 => ((r45 = (nI 1) → c106 x0 x1 x2 x3 x4 x5 x6 x7 x8 x10 x11 (x12 + (nI 1)) h44) ∧ (¬ r45 = (nI 1) → K (nI 0) h44))))))))))
def wL_isWhole_J238 (K : Int32 → AH → Prop) (c106 : Nat → Nat → Int32 → Int32 → Int32 → Int32 → Int32 → Int32 → Int64 → Int32 → Int32 → Int32 → AH → Prop) (x0 : Nat) (x1 : Nat) (x2 : Int32) (x3 : Int32) (x4 : Int32) (x5 : Int32) (x6 : Int32) (x7 : Int32) (x8 : Int64) (x10 : Int32) (x11 : Int32) (x12 : Int32) (x13 : Int32) (h : AH) : Prop :=
  (wL_isWhole_J243 K c106 x0 x1 x2 x3 x4 x5 x6 x7 x8 x10 x11 x12 x13 (nI 1) h)
def wL_isWhole_J242 (K : Int32 → AH → Prop) (c106 : Nat → Nat → Int32 → Int32 → Int32 → Int32 → Int32 → Int32 → Int64 → Int32 → Int32 → Int32 → AH → Prop) (x0 : Nat) (x1 : Nat) (x2 : Int32) (x3 : Int32) (x4 : Int32) (x5 : Int32) (x6 : Int32) (x7 : Int32) (x8 : Int64) (x10 : Int32) (x11 : Int32) (x12 : Int32) (x13 : Int32) (h : AH) : Prop :=
  (wL_isWhole_J243 K c106 x0 x1 x2 x3 x4 x5 x6 x7 x8 x10 x11 x12 x13 (nI 0) h)
def wL_isWhole_J235 (K : Int32 → AH → Prop) (c106 : Nat → Nat → Int32 → Int32 → Int32 → Int32 → Int32 → Int32 → Int64 → Int32 → Int32 → Int32 → AH → Prop) (x0 : Nat) (x1 : Nat) (x2 : Int32) (x3 : Int32) (x4 : Int32) (x5 : Int32) (x6 : Int32) (x7 : Int32) (x8 : Int64) (x10 : Int32) (x11 : Int32) (x12 : Int32) (x13 : Int32) (y0 : Int32) (y1 : Int32) (h : AH) : Prop :=
  ((¬ y0 = y1 → (wL_isWhole_J242 K c106 x0 x1 x2 x3 x4 x5 x6 x7 x8 x10 x11 x12 x13 h)) ∧ (y0 = y1 → (wL_isWhole_J238 K c106 x0 x1 x2 x3 x4 x5 x6 x7 x8 x10 x11 x12 x13 h)))
def wL_isWhole_J234 (K : Int32 → AH → Prop) (c106 : Nat → Nat → Int32 → Int32 → Int32 → Int32 → Int32 → Int32 → Int64 → Int32 → Int32 → Int32 → AH → Prop) (x0 : Nat) (x1 : Nat) (x2 : Int32) (x3 : Int32) (x4 : Int32) (x5 : Int32) (x6 : Int32) (x7 : Int32) (x8 : Int64) (x10 : Int32) (x11 : Int32) (x12 : Int32) (x13 : Int32) (y0 : Int32) (h : AH) : Prop :=
  (wL_isWhole_J235 K c106 x0 x1 x2 x3 x4 x5 x6 x7 x8 x10 x11 x12 x13 y0 (nI 0) h)
def wL_isWhole_J214 (K : Int32 → AH → Prop) (c106 : Nat → Nat → Int32 → Int32 → Int32 → Int32 → Int32 → Int32 → Int64 → Int32 → Int32 → Int32 → AH → Prop) (x0 : Nat) (x1 : Nat) (x2 : Int32) (x3 : Int32) (x4 : Int32) (x5 : Int32) (x6 : Int32) (x7 : Int32) (x8 : Int64) (x10 : Int32) (x11 : Int32) (x12 : Int32) (x13 : Int32) (y0 : Int32) (h : AH) : Prop :=
  ((x13 < nI 0 → (wL_isWhole_J234 K c106 x0 x1 x2 x3 x4 x5 x6 x7 x8 x10 x11 x12 x13 y0 h)) ∧ (¬ x13 < nI 0 → wL_blockOf x0 x13 h (fun r54 h53 => ((¬ r54 = x12 → (wL_isWhole_J234 K c106 x0 x1 x2 x3 x4 x5 x6 x7 x8 x10 x11 x12 x13 y0 h53)) ∧ (r54 = x12 → (wL_isWhole_J235 K c106 x0 x1 x2 x3 x4 x5 x6 x7 x8 x10 x11 x12 x13 y0 (nI 1) h53))))))
def wL_isWhole_J199 (K : Int32 → AH → Prop) (c106 : Nat → Nat → Int32 → Int32 → Int32 → Int32 → Int32 → Int32 → Int64 → Int32 → Int32 → Int32 → AH → Prop) (x0 : Nat) (x1 : Nat) (x2 : Int32) (x3 : Int32) (x4 : Int32) (x5 : Int32) (x6 : Int32) (x7 : Int32) (x8 : Int64) (x10 : Int32) (x11 : Int32) (x12 : Int32) (x13 : Int32) (x14 : Int32) (y0 : Int32) (y1 : Int32) (h : AH) : Prop :=
  ((¬ y0 = y1 → (wL_isWhole_J242 K c106 x0 x1 x2 x3 x4 x5 x6 x7 x8 x10 x11 x12 x13 h)) ∧ (y0 = y1 → ((¬ x14 = (nI 111) → (wL_isWhole_J214 K c106 x0 x1 x2 x3 x4 x5 x6 x7 x8 x10 x11 x12 x13 (nI 0) h)) ∧ (x14 = (nI 111) → (wL_isWhole_J214 K c106 x0 x1 x2 x3 x4 x5 x6 x7 x8 x10 x11 x12 x13 (nI 1) h)))))
def wL_isWhole_J189 (K : Int32 → AH → Prop) (c106 : Nat → Nat → Int32 → Int32 → Int32 → Int32 → Int32 → Int32 → Int64 → Int32 → Int32 → Int32 → AH → Prop) (x0 : Nat) (x1 : Nat) (x2 : Int32) (x3 : Int32) (x4 : Int32) (x5 : Int32) (x6 : Int32) (x7 : Int32) (x8 : Int64) (x10 : Int32) (x11 : Int32) (x12 : Int32) (x13 : Int32) (x14 : Int32) (y0 : Int32) (h : AH) : Prop :=
  ((nI 0 ≤ x13 → (wL_isWhole_J199 K c106 x0 x1 x2 x3 x4 x5 x6 x7 x8 x10 x11 x12 x13 x14 y0 (nI 0) h)) ∧ (¬ nI 0 ≤ x13 → (wL_isWhole_J199 K c106 x0 x1 x2 x3 x4 x5 x6 x7 x8 x10 x11 x12 x13 x14 y0 (nI 1) h)))
def wL_isWhole_J159 (K : Int32 → AH → Prop) (c106 : Nat → Nat → Int32 → Int32 → Int32 → Int32 → Int32 → Int32 → Int64 → Int32 → Int32 → Int32 → AH → Prop) (x0 : Nat) (x1 : Nat) (x2 : Int32) (x3 : Int32) (x4 : Int32) (x5 : Int32) (x6 : Int32) (x7 : Int32) (x8 : Int64) (x10 : Int32) (x12 : Int32) (x13 : Int32) (y0 : Int32) (y1 : Int32) (h : AH) : Prop :=
  wL_blockState x0 x12 h (fun r37 h36 => ((r37 = (nI 115) → (wL_isWhole_J238 K c106 x0 x1 x2 x3 x4 x5 x6 x7 x8 x10 (y0 + y1) x12 x13 h36)) ∧ (¬ r37 = (nI 115) → ((¬ r37 = (nI 102) → (wL_isWhole_J189 K c106 x0 x1 x2 x3 x4 x5 x6 x7 x8 x10 (y0 + y1) x12 x13 r37 (nI 0) h36)) ∧ (r37 = (nI 102) → (wL_isWhole_J189 K c106 x0 x1 x2 x3 x4 x5 x6 x7 x8 x10 (y0 + y1) x12 x13 r37 (nI 1) h36))))))
def wL_isWhole_J158 (K : Int32 → AH → Prop) (c106 : Nat → Nat → Int32 → Int32 → Int32 → Int32 → Int32 → Int32 → Int64 → Int32 → Int32 → Int32 → AH → Prop) (x0 : Nat) (x1 : Nat) (x2 : Int32) (x3 : Int32) (x4 : Int32) (x5 : Int32) (x6 : Int32) (x7 : Int32) (x8 : Int64) (x10 : Int32) (x12 : Int32) (x13 : Int32) (y0 : Int32) (h : AH) : Prop :=
  (wL_isWhole_J159 K c106 x0 x1 x2 x3 x4 x5 x6 x7 x8 x10 x12 x13 y0 (nI 0) h)
def wL_isWhole_J133 (K : Int32 → AH → Prop) (c106 : Nat → Nat → Int32 → Int32 → Int32 → Int32 → Int32 → Int32 → Int64 → Int32 → Int32 → Int32 → AH → Prop) (x0 : Nat) (x1 : Nat) (x2 : Int32) (x3 : Int32) (x4 : Int32) (x5 : Int32) (x6 : Int32) (x7 : Int32) (x8 : Int64) (x11 : Int32) (x12 : Int32) (x13 : Int32) (y0 : Int32) (y1 : Int32) (h : AH) : Prop :=
  ((x13 < nI 0 → (wL_isWhole_J158 K c106 x0 x1 x2 x3 x4 x5 x6 x7 x8 (y0 + y1) x12 x13 x11 h)) ∧ (¬ x13 < nI 0 → wL_blockOf x0 x13 h (fun r57 h56 => ((¬ r57 = x12 → (wL_isWhole_J158 K c106 x0 x1 x2 x3 x4 x5 x6 x7 x8 (y0 + y1) x12 x13 x11 h56)) ∧ (r57 = x12 → (wL_isWhole_J159 K c106 x0 x1 x2 x3 x4 x5 x6 x7 x8 (y0 + y1) x12 x13 x11 (nI 1) h56))))))
def wL_isWhole_L106 (K : Int32 → AH → Prop) (c284 : Nat → Nat → Int32 → Int32 → Int32 → Int32 → Int32 → Int32 → Int64 → Int32 → Int32 → AH → Prop)  : Nat → Nat → Nat → Nat → Int32 → Int32 → Int32 → Int32 → Int32 → Int32 → Int64 → Int32 → Int32 → Int32 → AH → Prop
  | 0 => fun _ _ _ _ _ _ _ _ _ _ _ _ _ _ => False
  | n + 1 => fun b x0 x1 x2 x3 x4 x5 x6 x7 x8 x10 x11 x12 h =>
  ((x5 ≤ x12 → c284 x0 x1 x2 x3 x4 x5 x6 x7 x8 x10 x11 h) ∧ (¬ x5 ≤ x12 → (0 < b) ∧ wL_trainAt x0 x12 h (fun r33 h32 => ((r33 < nI 0 → (wL_isWhole_J133 K (wL_isWhole_L106 K c284  n (b - 1)) x0 x1 x2 x3 x4 x5 x6 x7 x8 x11 x12 r33 x10 (nI 0) h32)) ∧ (¬ r33 < nI 0 → (wL_isWhole_J133 K (wL_isWhole_L106 K c284  n (b - 1)) x0 x1 x2 x3 x4 x5 x6 x7 x8 x11 x12 r33 x10 (nI 1) h32))))))
def wL_isWhole_L287 (K : Int32 → AH → Prop) (c318 : Nat → Nat → Int32 → Int32 → Int32 → Int32 → Int32 → Int32 → Int64 → Int32 → Int32 → AH → Prop)  : Nat → Nat → Nat → Nat → Int32 → Int32 → Int32 → Int32 → Int32 → Int32 → Int64 → Int32 → Int32 → Int32 → AH → Prop
  | 0 => fun _ _ _ _ _ _ _ _ _ _ _ _ _ _ => False
  | n + 1 => fun b x0 x1 x2 x3 x4 x5 x6 x7 x8 x10 x11 x12 h =>
  (((x6 - x7) ≤ x12 → c318 x0 x1 x2 x3 x4 x5 x6 x7 x8 x10 x11 h) ∧ (¬ (x6 - x7) ≤ x12 → (0 < b) ∧ wL_queued x0 x12 h (fun r74 h73 => wL_hasRoute x0 r74 h73 (fun r76 h75 => ((r76 = nI 0 → wL_isWhole_L287 K c318  n (b - 1) x0 x1 x2 x3 x4 x5 x6 x7 x8 x10 x11 (x12 + (nI 1)) h75) ∧ (¬ r76 = nI 0 → K (nI 0) h75))))))
def wL_isWhole_L321 (K : Int32 → AH → Prop) (c359 : Nat → Nat → Int32 → Int32 → Int32 → Int32 → Int32 → Int32 → Int64 → Int32 → Int32 → AH → Prop)  : Nat → Nat → Nat → Nat → Int32 → Int32 → Int32 → Int32 → Int32 → Int32 → Int64 → Int32 → Int32 → Int32 → AH → Prop
  | 0 => fun _ _ _ _ _ _ _ _ _ _ _ _ _ _ => False
  | n + 1 => fun b x0 x1 x2 x3 x4 x5 x6 x7 x8 x10 x11 x12 h =>
  (((nI 8) ≤ x12 → c359 x0 x1 x2 x3 x4 x5 x6 x7 x8 x10 x11 h) ∧ (¬ (nI 8) ≤ x12 → (0 < b) ∧ wL_lockedBy x0 x12 h (fun r93 h92 => ((r93 < nI 0 → wL_isWhole_L321 K c359  n (b - 1) x0 x1 x2 x3 x4 x5 x6 x7 x8 x10 x11 (x12 + (nI 1)) h92) ∧ (¬ r93 < nI 0 → wL_lockedBy x0 x12 h92 (fun r96 h95 => wL_hasRoute x0 r96 h95 (fun r98 h97 => ((r98 = (nI 1) → wL_isWhole_L321 K c359  n (b - 1) x0 x1 x2 x3 x4 x5 x6 x7 x8 x10 x11 (x12 + (nI 1)) h97) ∧ (¬ r98 = (nI 1) → K (nI 0) h97)))))))))
def wL_isWhole_J567 (K : Int32 → AH → Prop)  (x0 : Nat) (x3 : Int32) (x6 : Int32) (x7 : Int32) (x8 : Int64) (x11 : Int32) (x12 : Int32) (x15 : Int32) (y0 : Int32) (h : AH) : Prop :=
  ((x12 = nI 0 → K (nI 0) h) ∧ (¬ x12 = nI 0 → ((x15 = nI 0 → K (nI 0) h) ∧ (¬ x15 = nI 0 → ((y0 = nI 0 → K (nI 0) h) ∧ (¬ y0 = nI 0 → (isO h x0 0) ∧ wX9_trains x0 h (fun r127 h126 => ((¬ r127 = x6 → K (nI 0) h126) ∧ (r127 = x6 → (((nI 8) < x6 → K (nI 0) h126) ∧ (¬ (nI 8) < x6 → ((¬ x11 = x6 → K (nI 0) h126) ∧ (x11 = x6 → wL_waiting x0 h126 (fun r132 h131 => ((¬ r132 = (x6 - x7) → K (nI 0) h131) ∧ (r132 = (x6 - x7) → (isO h131 x0 0) ∧ wX9_totalDelay x0 h131 (fun r135 h134 => ((nI 0 < (lg_cmp x8 r135) → K (nI 0) h134) ∧ (¬ nI 0 < (lg_cmp x8 r135) → (isO h134 x0 0) ∧ wX9_arrived x0 h134 (fun r138 h137 => ((¬ (r138 + x6) = x3 → K (nI 0) h137) ∧ ((r138 + x6) = x3 → K (nI 1) h137))))))))))))))))))))))
def wL_isWhole_J566 (K : Int32 → AH → Prop)  (x0 : Nat) (x3 : Int32) (x6 : Int32) (x7 : Int32) (x8 : Int64) (x11 : Int32) (x12 : Int32) (x15 : Int32) (h : AH) : Prop :=
  (wL_isWhole_J567 K x0 x3 x6 x7 x8 x11 x12 x15 (nI 0) h)
def wL_isWhole_J558 (K : Int32 → AH → Prop)  (x0 : Nat) (x3 : Int32) (x6 : Int32) (x7 : Int32) (x8 : Int64) (x11 : Int32) (x12 : Int32) (x15 : Int32) (y0 : UInt32) (y1 : UInt32) (h : AH) : Prop :=
  ((¬ (Op.cmpValue (FP.fcmp y0 y1) .l) = nI 0 → (wL_isWhole_J566 K x0 x3 x6 x7 x8 x11 x12 x15 h)) ∧ ((Op.cmpValue (FP.fcmp y0 y1) .l) = nI 0 → (wL_isWhole_J567 K x0 x3 x6 x7 x8 x11 x12 x15 (nI 1) h)))
def wL_isWhole_J533 (K : Int32 → AH → Prop)  (x0 : Nat) (x3 : Int32) (x5 : Int32) (x6 : Int32) (x7 : Int32) (x8 : Int64) (x10 : Int32) (x11 : Int32) (x12 : Int32) (x15 : Int32) (y0 : UInt64) (y1 : UInt64) (h : AH) : Prop :=
  ((¬ (Op.cmpValue (FP.dcmp y0 y1) .l) = nI 0 → (wL_isWhole_J566 K x0 x3 x6 x7 x8 x11 x12 x15 h)) ∧ ((Op.cmpValue (FP.dcmp y0 y1) .l) = nI 0 → wL_usedShare x0 h (fun r144 h143 => ((¬ x5 = nI 0 → (vf_n32 (FP.fdiv (FP.i2f x10) (FP.i2f x5))) ∧ (wL_isWhole_J558 K x0 x3 x6 x7 x8 x11 x12 x15 r144 (FP.fdiv (FP.i2f x10) (FP.i2f x5)) h143)) ∧ (x5 = nI 0 → (wL_isWhole_J558 K x0 x3 x6 x7 x8 x11 x12 x15 r144 (3264479232) h143))))))
def wL_isWhole_J509 (K : Int32 → AH → Prop)  (x0 : Nat) (x3 : Int32) (x5 : Int32) (x6 : Int32) (x7 : Int32) (x8 : Int64) (x10 : Int32) (x11 : Int32) (x12 : Int32) (y0 : Int32) (h : AH) : Prop :=
  wL_meanDelay x0 h (fun r117 h116 => ((¬ x3 = nI 0 → (isO h116 x0 0) ∧ wX9_totalDelay x0 h116 (fun r120 h119 => (vf_n64 (FP.ddiv (FP.l2d r120) (FP.i2d x3))) ∧ (wL_isWhole_J533 K x0 x3 x5 x6 x7 x8 x10 x11 x12 y0 r117 (FP.ddiv (FP.l2d r120) (FP.i2d x3)) h119))) ∧ (x3 = nI 0 → (wL_isWhole_J533 K x0 x3 x5 x6 x7 x8 x10 x11 x12 y0 r117 (13858279740860792832) h116))))
def wL_isWhole_J504 (K : Int32 → AH → Prop)  (x0 : Nat) (x3 : Int32) (x5 : Int32) (x6 : Int32) (x7 : Int32) (x8 : Int64) (x10 : Int32) (x11 : Int32) (x12 : Int32) (h : AH) : Prop :=
  (wL_isWhole_J509 K x0 x3 x5 x6 x7 x8 x10 x11 x12 (nI 1) h)
def wL_isWhole_J508 (K : Int32 → AH → Prop)  (x0 : Nat) (x3 : Int32) (x5 : Int32) (x6 : Int32) (x7 : Int32) (x8 : Int64) (x10 : Int32) (x11 : Int32) (x12 : Int32) (h : AH) : Prop :=
  (wL_isWhole_J509 K x0 x3 x5 x6 x7 x8 x10 x11 x12 (nI 0) h)
def wL_isWhole_J494 (K : Int32 → AH → Prop)  (x0 : Nat) (x3 : Int32) (x5 : Int32) (x6 : Int32) (x7 : Int32) (x8 : Int64) (x10 : Int32) (x11 : Int32) (x12 : Int32) (y0 : Int32) (y1 : Int32) (h : AH) : Prop :=
  ((¬ y0 = y1 → (wL_isWhole_J508 K x0 x3 x5 x6 x7 x8 x10 x11 x12 h)) ∧ (y0 = y1 → (isO h x0 0) ∧ wX9_isConsistent x0 h (fun r162 h161 => ((r162 = nI 0 → (wL_isWhole_J508 K x0 x3 x5 x6 x7 x8 x10 x11 x12 h161)) ∧ (¬ r162 = nI 0 → (wL_isWhole_J504 K x0 x3 x5 x6 x7 x8 x10 x11 x12 h161))))))
def wL_isWhole_J483 (K : Int32 → AH → Prop)  (x0 : Nat) (x3 : Int32) (x5 : Int32) (x6 : Int32) (x7 : Int32) (x8 : Int64) (x10 : Int32) (x11 : Int32) (x12 : Int32) (y0 : Int32) (h : AH) : Prop :=
  ((x6 < (nI 1) → (wL_isWhole_J494 K x0 x3 x5 x6 x7 x8 x10 x11 x12 y0 (nI 0) h)) ∧ (¬ x6 < (nI 1) → (wL_isWhole_J494 K x0 x3 x5 x6 x7 x8 x10 x11 x12 y0 (nI 1) h)))
def wL_isWhole_J424 (K : Int32 → AH → Prop)  (x0 : Nat) (x3 : Int32) (x4 : Int32) (x5 : Int32) (x6 : Int32) (x7 : Int32) (x8 : Int64) (x10 : Int32) (x11 : Int32) (x12 : Int32) (x13 : Int32) (y0 : Int32) (h : AH) : Prop :=
  ((x4 = nI 0 → (wL_isWhole_J504 K x0 x3 x5 x6 x7 x8 x10 x11 x12 h)) ∧ (¬ x4 = nI 0 → (isO h x0 0) ∧ wX9_deadlockedByPairs x0 h (fun r150 h149 => ((¬ r150 = x13 → (wL_isWhole_J508 K x0 x3 x5 x6 x7 x8 x10 x11 x12 h149)) ∧ (r150 = x13 → ((x13 = (nI 1) → (wL_isWhole_J508 K x0 x3 x5 x6 x7 x8 x10 x11 x12 h149)) ∧ (¬ x13 = (nI 1) → (((x6 - x7) < x13 → (wL_isWhole_J508 K x0 x3 x5 x6 x7 x8 x10 x11 x12 h149)) ∧ (¬ (x6 - x7) < x13 → (isO h149 x0 0) ∧ wX9_mostWithoutConflictBySets x0 h149 (fun r155 h154 => ((¬ r155 = y0 → (wL_isWhole_J508 K x0 x3 x5 x6 x7 x8 x10 x11 x12 h154)) ∧ (r155 = y0 → ((x6 < y0 → (wL_isWhole_J508 K x0 x3 x5 x6 x7 x8 x10 x11 x12 h154)) ∧ (¬ x6 < y0 → ((y0 < (nI 1) → (wL_isWhole_J483 K x0 x3 x5 x6 x7 x8 x10 x11 x12 (nI 0) h154)) ∧ (¬ y0 < (nI 1) → (wL_isWhole_J483 K x0 x3 x5 x6 x7 x8 x10 x11 x12 (nI 1) h154)))))))))))))))))
def wL_isWhole_J409 (K : Int32 → AH → Prop)  (x0 : Nat) (x3 : Int32) (x4 : Int32) (x5 : Int32) (x6 : Int32) (x7 : Int32) (x8 : Int64) (x10 : Int32) (x11 : Int32) (x12 : Int32) (y0 : Int32) (h : AH) : Prop :=
  ((x4 = nI 0 → (wL_isWhole_J424 K x0 x3 x4 x5 x6 x7 x8 x10 x11 x12 y0 (nI 0) h)) ∧ (¬ x4 = nI 0 → (isO h x0 0) ∧ wX9_mostWithoutConflict x0 h (fun r168 h167 => (wL_isWhole_J424 K x0 x3 x4 x5 x6 x7 x8 x10 x11 x12 y0 r168 h167))))
def wL_isWhole_J394 (K : Int32 → AH → Prop)  (x0 : Nat) (x3 : Int32) (x4 : Int32) (x5 : Int32) (x6 : Int32) (x7 : Int32) (x8 : Int64) (x10 : Int32) (x11 : Int32) (y0 : Int32) (h : AH) : Prop :=
  ((x4 = nI 0 → (wL_isWhole_J409 K x0 x3 x4 x5 x6 x7 x8 x10 x11 y0 (nI 0) h)) ∧ (¬ x4 = nI 0 → (isO h x0 0) ∧ wX9_deadlocked x0 h (fun r171 h170 => (wL_isWhole_J409 K x0 x3 x4 x5 x6 x7 x8 x10 x11 y0 r171 h170))))
def wL_isWhole_J389 (K : Int32 → AH → Prop)  (x0 : Nat) (x3 : Int32) (x4 : Int32) (x5 : Int32) (x6 : Int32) (x7 : Int32) (x8 : Int64) (x10 : Int32) (x11 : Int32) (h : AH) : Prop :=
  (wL_isWhole_J394 K x0 x3 x4 x5 x6 x7 x8 x10 x11 (nI 1) h)
def wL_isWhole (a0 : Nat) (a1 : Nat) (a2 : Int32) (a3 : Int32) (a4 : Int32) (h : AH) (K : Int32 → AH → Prop) : Prop :=
  (isO h a0 0) ∧ wX9_blocks a0 h (fun r2 h1 => (∃ n183 bn183, bn183 ≤ 8 ∧ wL_isWhole_L18 K (fun x0_20 x1_21 x2_22 x3_23 x4_24 x5_25 x6_26 x7_27 x8_28 h29 => (∃ n182 bn182, bn182 ≤ 12 ∧ wL_isWhole_L106 K (fun x0_59 x1_60 x2_61 x3_62 x4_63 x5_64 x6_65 x7_66 x8_67 x10_68 x11_69 h70 => (∃ n181 bn181, bn181 ≤ 8 ∧ wL_isWhole_L287 K (fun x0_78 x1_79 x2_80 x3_81 x4_82 x5_83 x6_84 x7_85 x8_86 x10_87 x11_88 h89 => (∃ n180 bn180, bn180 ≤ 8 ∧ wL_isWhole_L321 K (fun x0_100 x1_101 x2_102 x3_103 x4_104 x5_105 x6_106 x7_107 x8_108 x10_109 x11_110 h111 => ((x5_105 = nI 0 → (wL_isWhole_J389 K x0_100 x3_103 x4_104 x5_105 x6_106 x7_107 x8_108 x10_109 x11_110 h111)) ∧ (¬ x5_105 = nI 0 → wL_pick x1_101 (x2_102 + (nI 2)) x5_105 h111 (fun r174 h173 => wL_pick x1_101 (x2_102 + (nI 3)) x5_105 h173 (fun r176 h175 => wL_isRoute x0_100 r174 r176 h175 (fun r178 h177 => ((r178 = nI 0 → (wL_isWhole_J394 K x0_100 x3_103 x4_104 x5_105 x6_106 x7_107 x8_108 x10_109 x11_110 (nI 0) h177)) ∧ (¬ r178 = nI 0 → (wL_isWhole_J389 K x0_100 x3_103 x4_104 x5_105 x6_106 x7_107 x8_108 x10_109 x11_110 h177))))))))) n180 bn180 x0_78 x1_79 x2_80 x3_81 x4_82 x5_83 x6_84 x7_85 x8_86 x10_87 x11_88 (nI 0) h89)) n181 bn181 x0_59 x1_60 x2_61 x3_62 x4_63 x5_64 x6_65 x7_66 x8_67 x10_68 x11_69 (nI 0) h70)) n182 bn182 x0_20 x1_21 x2_22 x3_23 x4_24 x5_25 x6_26 x7_27 x8_28 (nI 0) (nI 0) (nI 0) h29)) n183 bn183 a0 a1 a2 a3 a4 r2 (nI 0) (nI 0) 0 (nI 0) h1))
def wL_isKept_L18 (K : Int32 → AH → Prop)   : Nat → Nat → Nat → Nat → Int32 → Int32 → Int32 → Int32 → AH → Prop
  | 0 => fun _ _ _ _ _ _ _ _ => False
  | n + 1 => fun b x0 x1 x2 x3 x4 x5 h =>
  ((x4 ≤ nI 0 → (0 < b) ∧ wL_undo x0 h (fun r6 h5 => ((¬ r6 = (-79) → K (nI 0) h5) ∧ (r6 = (-79) → wL_restore x0 h5 (fun r9 h8 => ((¬ r9 = x3 → K (nI 0) h8) ∧ (r9 = x3 → wL_sum x0 h8 (fun r12 h11 => (isA h11 x1 1) ∧ (vp_in x2 (ln h11 x1)) ∧ ((¬ (lg_cmp r12 (mL h11 x1 x2.toNatClampNeg)) = nI 0 → K (nI 0) h11) ∧ ((lg_cmp r12 (mL h11 x1 x2.toNatClampNeg)) = nI 0 → wL_undo x0 h11 (fun r17 h16 => ((¬ r17 = (-79) → K (nI 0) h16) ∧ (r17 = (-79) → K (nI 1) h16))))))))))))) ∧ (¬ x4 ≤ nI 0 → (0 < b) ∧ wL_undo x0 h (fun r21 h20 => ((¬ r21 = (x4 + (-1)) → K (nI 0) h20) ∧ (r21 = (x4 + (-1)) → wL_sum x0 h20 (fun r24 h23 => (isA h23 x1 1) ∧ (vp_in x5 (ln h23 x1)) ∧ (((lg_cmp r24 (mL h23 x1 x5.toNatClampNeg)) = nI 0 → wL_isKept_L18 K   n (b - 1) x0 x1 x2 x3 (x4 + (-1)) (x5 + (-1)) h23) ∧ (¬ (lg_cmp r24 (mL h23 x1 x5.toNatClampNeg)) = nI 0 → K (nI 0) h23))))))))
def wL_isKept (a0 : Nat) (a1 : Nat) (a2 : Int32) (h : AH) (K : Int32 → AH → Prop) : Prop :=
  (isO h a0 0) ∧ wX9_save a0 h (fun r2 h1 => (∃ n28 bn28, bn28 ≤ 8 ∧ wL_isKept_L18 K  n28 bn28 a0 a1 a2 r2 (if a2 < (nI 8) then a2 else (nI 8)) (a2 - (nI 1)) h1))
def wL_law_J892 (K : Int32 → AH → Prop) (c31 : Nat → Nat → Nat → Int32 → Int32 → Int32 → Int32 → AH → Prop) (x0 : Nat) (x1 : Nat) (x2 : Nat) (x3 : Int32) (x4 : Int32) (x5 : Int32) (x6 : Int32) (x7 : Int64) (x27 : Int32) (y0 : Nat) (y1 : Nat) (y2 : Int32) (y3 : Int32) (y4 : Int32) (h : AH) : Prop :=
  wL_isWhole y0 y1 y2 y3 y4 h (fun r76 h75 => ((¬ r76 = nI 0 → ((¬ x27 = nI 0 → wL_sum x1 h75 (fun r80 h79 => (isA h79 x2 1) ∧ (nZ ≤ x2) ∧ (vp_in (x3 + (nI 1)) (ln h79 x2)) ∧ ∀ h84, h84 = uL h79 x2 (x3 + (nI 1)).toNatClampNeg r80 → c31 x0 x1 x2 (x3 + (nI 1)) x4 x5 (x6 + (nI 1)) h84)) ∧ (x27 = nI 0 → wL_sum x1 h75 (fun r86 h85 => (((lg_cmp r86 x7) = nI 0 → c31 x0 x1 x2 x3 x4 x5 (x6 + (nI 1)) h85) ∧ (¬ (lg_cmp r86 x7) = nI 0 → K (nI 0) h85)))))) ∧ (r76 = nI 0 → K (nI 0) h75)))
def wL_law_J862 (K : Int32 → AH → Prop) (c31 : Nat → Nat → Nat → Int32 → Int32 → Int32 → Int32 → AH → Prop) (x0 : Nat) (x1 : Nat) (x2 : Nat) (x3 : Int32) (x4 : Int32) (x5 : Int32) (x6 : Int32) (x7 : Int64) (x27 : Int32) (y0 : Int32) (y1 : Int32) (h : AH) : Prop :=
  (((y0 &&& y1) = nI 0 → K (nI 0) h) ∧ (¬ (y0 &&& y1) = nI 0 → ((¬ (x6 - x6 / (nI 4) * (nI 4)) = (nI 3) → (wL_law_J892 K c31 x0 x1 x2 x3 (x4 + (nI 5)) x5 x6 x7 x27 x1 x0 (x4 + (nI 5)) x5 (nI 0) h)) ∧ ((x6 - x6 / (nI 4) * (nI 4)) = (nI 3) → (wL_law_J892 K c31 x0 x1 x2 x3 (x4 + (nI 5)) x5 x6 x7 x27 x1 x0 (x4 + (nI 5)) x5 (nI 1) h)))))
def wL_law_J857 (K : Int32 → AH → Prop) (c31 : Nat → Nat → Nat → Int32 → Int32 → Int32 → Int32 → AH → Prop) (x0 : Nat) (x1 : Nat) (x2 : Nat) (x3 : Int32) (x4 : Int32) (x5 : Int32) (x6 : Int32) (x7 : Int64) (x27 : Int32) (y0 : Int32) (h : AH) : Prop :=
  (wL_law_J862 K c31 x0 x1 x2 x3 x4 x5 x6 x7 x27 y0 (nI 1) h)
def wL_law_J861 (K : Int32 → AH → Prop) (c31 : Nat → Nat → Nat → Int32 → Int32 → Int32 → Int32 → AH → Prop) (x0 : Nat) (x1 : Nat) (x2 : Nat) (x3 : Int32) (x4 : Int32) (x5 : Int32) (x6 : Int32) (x7 : Int64) (x27 : Int32) (y0 : Int32) (h : AH) : Prop :=
  (wL_law_J862 K c31 x0 x1 x2 x3 x4 x5 x6 x7 x27 y0 (nI 0) h)
def wL_law_J821 (K : Int32 → AH → Prop) (c31 : Nat → Nat → Nat → Int32 → Int32 → Int32 → Int32 → AH → Prop) (x0 : Nat) (x1 : Nat) (x2 : Nat) (x3 : Int32) (x4 : Int32) (x5 : Int32) (x6 : Int32) (x7 : Int64) (x9 : Int32) (x18 : Int32) (x19 : Int64) (x27 : Int32) (x30 : Int32) (y0 : Int32) (y1 : Int32) (h : AH) : Prop :=
  ((¬ x30 = nI 0 → (wL_law_J857 K c31 x0 x1 x2 x3 x4 x5 x6 x7 x27 (y0 &&& y1) h)) ∧ (x30 = nI 0 → (((nI 45) < x9 → (wL_law_J857 K c31 x0 x1 x2 x3 x4 x5 x6 x7 x27 (y0 &&& y1) h)) ∧ (¬ (nI 45) < x9 → (isO h x1 0) ∧ wX9_totalDelay x1 h (fun r90 h89 => ((¬ (lg_cmp r90 x19) = nI 0 → (wL_law_J861 K c31 x0 x1 x2 x3 x4 x5 x6 x7 x27 (y0 &&& y1) h89)) ∧ ((lg_cmp r90 x19) = nI 0 → (isO h89 x1 0) ∧ wX9_time x1 h89 (fun r93 h92 => ((¬ r93 = x18 → (wL_law_J861 K c31 x0 x1 x2 x3 x4 x5 x6 x7 x27 (y0 &&& y1) h92)) ∧ (r93 = x18 → (wL_law_J857 K c31 x0 x1 x2 x3 x4 x5 x6 x7 x27 (y0 &&& y1) h92)))))))))))
def wL_law_J816 (K : Int32 → AH → Prop) (c31 : Nat → Nat → Nat → Int32 → Int32 → Int32 → Int32 → AH → Prop) (x0 : Nat) (x1 : Nat) (x2 : Nat) (x3 : Int32) (x4 : Int32) (x5 : Int32) (x6 : Int32) (x7 : Int64) (x9 : Int32) (x18 : Int32) (x19 : Int64) (x27 : Int32) (x30 : Int32) (y0 : Int32) (h : AH) : Prop :=
  (wL_law_J821 K c31 x0 x1 x2 x3 x4 x5 x6 x7 x9 x18 x19 x27 x30 y0 (nI 1) h)
def wL_law_J820 (K : Int32 → AH → Prop) (c31 : Nat → Nat → Nat → Int32 → Int32 → Int32 → Int32 → AH → Prop) (x0 : Nat) (x1 : Nat) (x2 : Nat) (x3 : Int32) (x4 : Int32) (x5 : Int32) (x6 : Int32) (x7 : Int64) (x9 : Int32) (x18 : Int32) (x19 : Int64) (x27 : Int32) (x30 : Int32) (y0 : Int32) (h : AH) : Prop :=
  (wL_law_J821 K c31 x0 x1 x2 x3 x4 x5 x6 x7 x9 x18 x19 x27 x30 y0 (nI 0) h)
def wL_law_J739 (K : Int32 → AH → Prop) (c31 : Nat → Nat → Nat → Int32 → Int32 → Int32 → Int32 → AH → Prop) (x0 : Nat) (x1 : Nat) (x2 : Nat) (x3 : Int32) (x4 : Int32) (x5 : Int32) (x6 : Int32) (x7 : Int64) (x9 : Int32) (x11 : Int32) (x12 : Int32) (x14 : Int32) (x15 : Int32) (x16 : Int32) (x18 : Int32) (x19 : Int64) (x23 : Int32) (x27 : Int32) (x30 : Int32) (y0 : Int32) (y1 : Int32) (h : AH) : Prop :=
  ((x30 = nI 0 → (wL_law_J816 K c31 x0 x1 x2 x3 x4 x5 x6 x7 x9 x18 x19 x27 x30 (y0 &&& y1) h)) ∧ (¬ x30 = nI 0 → ((¬ x12 = (nI 1) → (wL_law_J816 K c31 x0 x1 x2 x3 x4 x5 x6 x7 x9 x18 x19 x27 x30 (y0 &&& y1) h)) ∧ (x12 = (nI 1) → ((x14 < x15 → wL_hasRoute x1 x11 h (fun r100 h99 => ((¬ r100 = (nI 1) → (wL_law_J820 K c31 x0 x1 x2 x3 x4 x5 x6 x7 x9 x18 x19 x27 x30 (y0 &&& y1) h99)) ∧ (r100 = (nI 1) → wL_minutesUntilArrival x1 x11 h99 (fun r103 h102 => ((¬ r103 = (x15 - x14) → (wL_law_J820 K c31 x0 x1 x2 x3 x4 x5 x6 x7 x9 x18 x19 x27 x30 (y0 &&& y1) h102)) ∧ (r103 = (x15 - x14) → ((x16 ≤ x14 → (wL_law_J816 K c31 x0 x1 x2 x3 x4 x5 x6 x7 x9 x18 x19 x27 x30 (y0 &&& y1) h102)) ∧ (¬ x16 ≤ x14 → wL_blockOf x1 x11 h102 (fun r107 h106 => ((¬ r107 = x23 → (wL_law_J820 K c31 x0 x1 x2 x3 x4 x5 x6 x7 x9 x18 x19 x27 x30 (y0 &&& y1) h106)) ∧ (r107 = x23 → (wL_law_J816 K c31 x0 x1 x2 x3 x4 x5 x6 x7 x9 x18 x19 x27 x30 (y0 &&& y1) h106))))))))))))) ∧ (¬ x14 < x15 → (isO h x1 0) ∧ wX9_isPresent x1 x11 h (fun r110 h109 => ((¬ r110 = nI 0 → (wL_law_J820 K c31 x0 x1 x2 x3 x4 x5 x6 x7 x9 x18 x19 x27 x30 (y0 &&& y1) h109)) ∧ (r110 = nI 0 → (wL_law_J816 K c31 x0 x1 x2 x3 x4 x5 x6 x7 x9 x18 x19 x27 x30 (y0 &&& y1) h109))))))))))
def wL_law_J734 (K : Int32 → AH → Prop) (c31 : Nat → Nat → Nat → Int32 → Int32 → Int32 → Int32 → AH → Prop) (x0 : Nat) (x1 : Nat) (x2 : Nat) (x3 : Int32) (x4 : Int32) (x5 : Int32) (x6 : Int32) (x7 : Int64) (x9 : Int32) (x11 : Int32) (x12 : Int32) (x14 : Int32) (x15 : Int32) (x16 : Int32) (x18 : Int32) (x19 : Int64) (x23 : Int32) (x27 : Int32) (x30 : Int32) (y0 : Int32) (h : AH) : Prop :=
  (wL_law_J739 K c31 x0 x1 x2 x3 x4 x5 x6 x7 x9 x11 x12 x14 x15 x16 x18 x19 x23 x27 x30 y0 (nI 1) h)
def wL_law_J738 (K : Int32 → AH → Prop) (c31 : Nat → Nat → Nat → Int32 → Int32 → Int32 → Int32 → AH → Prop) (x0 : Nat) (x1 : Nat) (x2 : Nat) (x3 : Int32) (x4 : Int32) (x5 : Int32) (x6 : Int32) (x7 : Int64) (x9 : Int32) (x11 : Int32) (x12 : Int32) (x14 : Int32) (x15 : Int32) (x16 : Int32) (x18 : Int32) (x19 : Int64) (x23 : Int32) (x27 : Int32) (x30 : Int32) (y0 : Int32) (h : AH) : Prop :=
  (wL_law_J739 K c31 x0 x1 x2 x3 x4 x5 x6 x7 x9 x11 x12 x14 x15 x16 x18 x19 x23 x27 x30 y0 (nI 0) h)
def wL_law_J661 (K : Int32 → AH → Prop) (c31 : Nat → Nat → Nat → Int32 → Int32 → Int32 → Int32 → AH → Prop) (x0 : Nat) (x1 : Nat) (x2 : Nat) (x3 : Int32) (x4 : Int32) (x5 : Int32) (x6 : Int32) (x7 : Int64) (x9 : Int32) (x11 : Int32) (x12 : Int32) (x14 : Int32) (x15 : Int32) (x16 : Int32) (x17 : Int32) (x18 : Int32) (x19 : Int64) (x21 : Int32) (x22 : Int32) (x23 : Int32) (x26 : Int32) (x27 : Int32) (x29 : Int32) (y0 : Int32) (h : AH) : Prop :=
  ((y0 = nI 0 → (wL_law_J734 K c31 x0 x1 x2 x3 x4 x5 x6 x7 x9 x11 x12 x14 x15 x16 x18 x19 x23 x27 y0 x29 h)) ∧ (¬ y0 = nI 0 → (isO h x1 0) ∧ wX9_time x1 h (fun r114 h113 => ((¬ r114 = (x18 + x14) → (wL_law_J738 K c31 x0 x1 x2 x3 x4 x5 x6 x7 x9 x11 x12 x14 x15 x16 x18 x19 x23 x27 y0 x29 h113)) ∧ (r114 = (x18 + x14) → (isO h113 x1 0) ∧ wX9_arrived x1 h113 (fun r117 h116 => ((¬ r117 = (x17 + x26) → (wL_law_J738 K c31 x0 x1 x2 x3 x4 x5 x6 x7 x9 x11 x12 x14 x15 x16 x18 x19 x23 x27 y0 x29 h116)) ∧ (r117 = (x17 + x26) → (isO h116 x1 0) ∧ wX9_trains x1 h116 (fun r120 h119 => ((¬ r120 = (x22 - x26) → (wL_law_J738 K c31 x0 x1 x2 x3 x4 x5 x6 x7 x9 x11 x12 x14 x15 x16 x18 x19 x23 x27 y0 x29 h119)) ∧ (r120 = (x22 - x26) → (isO h119 x1 0) ∧ wX9_totalDelay x1 h119 (fun r123 h122 => (((lg_cmp r123 x19) < nI 0 → (wL_law_J738 K c31 x0 x1 x2 x3 x4 x5 x6 x7 x9 x11 x12 x14 x15 x16 x18 x19 x23 x27 y0 x29 h122)) ∧ (¬ (lg_cmp r123 x19) < nI 0 → (isO h122 x1 0) ∧ wX9_totalDelay x1 h122 (fun r126 h125 => ((nI 0 < (lg_cmp r126 (x19 + (x21.toInt64 * x14.toInt64))) → (wL_law_J738 K c31 x0 x1 x2 x3 x4 x5 x6 x7 x9 x11 x12 x14 x15 x16 x18 x19 x23 x27 y0 x29 h125)) ∧ (¬ nI 0 < (lg_cmp r126 (x19 + (x21.toInt64 * x14.toInt64))) → (wL_law_J734 K c31 x0 x1 x2 x3 x4 x5 x6 x7 x9 x11 x12 x14 x15 x16 x18 x19 x23 x27 y0 x29 h125))))))))))))))))))
def wL_law_J660 (K : Int32 → AH → Prop) (c31 : Nat → Nat → Nat → Int32 → Int32 → Int32 → Int32 → AH → Prop) (x0 : Nat) (x1 : Nat) (x2 : Nat) (x3 : Int32) (x4 : Int32) (x5 : Int32) (x6 : Int32) (x7 : Int64) (x9 : Int32) (x11 : Int32) (x12 : Int32) (x14 : Int32) (x15 : Int32) (x16 : Int32) (x17 : Int32) (x18 : Int32) (x19 : Int64) (x21 : Int32) (x22 : Int32) (x23 : Int32) (x26 : Int32) (x27 : Int32) (x29 : Int32) (h : AH) : Prop :=
  (wL_law_J661 K c31 x0 x1 x2 x3 x4 x5 x6 x7 x9 x11 x12 x14 x15 x16 x17 x18 x19 x21 x22 x23 x26 x27 x29 (nI 0) h)
def wL_law_J634 (K : Int32 → AH → Prop) (c31 : Nat → Nat → Nat → Int32 → Int32 → Int32 → Int32 → AH → Prop) (x0 : Nat) (x1 : Nat) (x2 : Nat) (x3 : Int32) (x4 : Int32) (x5 : Int32) (x6 : Int32) (x7 : Int64) (x9 : Int32) (x11 : Int32) (x12 : Int32) (x14 : Int32) (x15 : Int32) (x16 : Int32) (x17 : Int32) (x18 : Int32) (x19 : Int64) (x21 : Int32) (x22 : Int32) (x23 : Int32) (x26 : Int32) (x27 : Int32) (y0 : Int32) (y1 : Int32) (h : AH) : Prop :=
  ((x27 = nI 0 → (wL_law_J660 K c31 x0 x1 x2 x3 x4 x5 x6 x7 x9 x11 x12 x14 x15 x16 x17 x18 x19 x21 x22 x23 x26 x27 (y0 &&& y1) h)) ∧ (¬ x27 = nI 0 → ((x9 ≤ (nI 30) → (wL_law_J660 K c31 x0 x1 x2 x3 x4 x5 x6 x7 x9 x11 x12 x14 x15 x16 x17 x18 x19 x21 x22 x23 x26 x27 (y0 &&& y1) h)) ∧ (¬ x9 ≤ (nI 30) → (((nI 46) ≤ x9 → (wL_law_J660 K c31 x0 x1 x2 x3 x4 x5 x6 x7 x9 x11 x12 x14 x15 x16 x17 x18 x19 x21 x22 x23 x26 x27 (y0 &&& y1) h)) ∧ (¬ (nI 46) ≤ x9 → (wL_law_J661 K c31 x0 x1 x2 x3 x4 x5 x6 x7 x9 x11 x12 x14 x15 x16 x17 x18 x19 x21 x22 x23 x26 x27 (y0 &&& y1) (nI 1) h)))))))
def wL_law_J629 (K : Int32 → AH → Prop) (c31 : Nat → Nat → Nat → Int32 → Int32 → Int32 → Int32 → AH → Prop) (x0 : Nat) (x1 : Nat) (x2 : Nat) (x3 : Int32) (x4 : Int32) (x5 : Int32) (x6 : Int32) (x7 : Int64) (x9 : Int32) (x11 : Int32) (x12 : Int32) (x14 : Int32) (x15 : Int32) (x16 : Int32) (x17 : Int32) (x18 : Int32) (x19 : Int64) (x21 : Int32) (x22 : Int32) (x23 : Int32) (x26 : Int32) (x27 : Int32) (y0 : Int32) (h : AH) : Prop :=
  (wL_law_J634 K c31 x0 x1 x2 x3 x4 x5 x6 x7 x9 x11 x12 x14 x15 x16 x17 x18 x19 x21 x22 x23 x26 x27 y0 (nI 1) h)
def wL_law_J633 (K : Int32 → AH → Prop) (c31 : Nat → Nat → Nat → Int32 → Int32 → Int32 → Int32 → AH → Prop) (x0 : Nat) (x1 : Nat) (x2 : Nat) (x3 : Int32) (x4 : Int32) (x5 : Int32) (x6 : Int32) (x7 : Int64) (x9 : Int32) (x11 : Int32) (x12 : Int32) (x14 : Int32) (x15 : Int32) (x16 : Int32) (x17 : Int32) (x18 : Int32) (x19 : Int64) (x21 : Int32) (x22 : Int32) (x23 : Int32) (x26 : Int32) (x27 : Int32) (y0 : Int32) (h : AH) : Prop :=
  (wL_law_J634 K c31 x0 x1 x2 x3 x4 x5 x6 x7 x9 x11 x12 x14 x15 x16 x17 x18 x19 x21 x22 x23 x26 x27 y0 (nI 0) h)
def wL_law_J570 (K : Int32 → AH → Prop) (c31 : Nat → Nat → Nat → Int32 → Int32 → Int32 → Int32 → AH → Prop) (x0 : Nat) (x1 : Nat) (x2 : Nat) (x3 : Int32) (x4 : Int32) (x5 : Int32) (x6 : Int32) (x7 : Int64) (x9 : Int32) (x11 : Int32) (x12 : Int32) (x14 : Int32) (x15 : Int32) (x16 : Int32) (x17 : Int32) (x18 : Int32) (x19 : Int64) (x21 : Int32) (x22 : Int32) (x23 : Int32) (x26 : Int32) (x27 : Int32) (y0 : Int32) (y1 : Int32) (h : AH) : Prop :=
  ((x27 = nI 0 → (wL_law_J629 K c31 x0 x1 x2 x3 x4 x5 x6 x7 x9 x11 x12 x14 x15 x16 x17 x18 x19 x21 x22 x23 x26 x27 (y0 &&& y1) h)) ∧ (¬ x27 = nI 0 → ((x9 < (nI 28) → (wL_law_J629 K c31 x0 x1 x2 x3 x4 x5 x6 x7 x9 x11 x12 x14 x15 x16 x17 x18 x19 x21 x22 x23 x26 x27 (y0 &&& y1) h)) ∧ (¬ x9 < (nI 28) → (((nI 30) < x9 → (wL_law_J629 K c31 x0 x1 x2 x3 x4 x5 x6 x7 x9 x11 x12 x14 x15 x16 x17 x18 x19 x21 x22 x23 x26 x27 (y0 &&& y1) h)) ∧ (¬ (nI 30) < x9 → ((¬ x12 = (nI 1) → (wL_law_J633 K c31 x0 x1 x2 x3 x4 x5 x6 x7 x9 x11 x12 x14 x15 x16 x17 x18 x19 x21 x22 x23 x26 x27 (y0 &&& y1) h)) ∧ (x12 = (nI 1) → wL_hasRoute x1 x11 h (fun r139 h138 => ((¬ r139 = nI 0 → (wL_law_J633 K c31 x0 x1 x2 x3 x4 x5 x6 x7 x9 x11 x12 x14 x15 x16 x17 x18 x19 x21 x22 x23 x26 x27 (y0 &&& y1) h138)) ∧ (r139 = nI 0 → ((¬ x26 = (x21 + (nI 1)) → (wL_law_J633 K c31 x0 x1 x2 x3 x4 x5 x6 x7 x9 x11 x12 x14 x15 x16 x17 x18 x19 x21 x22 x23 x26 x27 (y0 &&& y1) h138)) ∧ (x26 = (x21 + (nI 1)) → wL_queued x1 x21 h138 (fun r143 h142 => ((¬ r143 = x11 → (wL_law_J633 K c31 x0 x1 x2 x3 x4 x5 x6 x7 x9 x11 x12 x14 x15 x16 x17 x18 x19 x21 x22 x23 x26 x27 (y0 &&& y1) h142)) ∧ (r143 = x11 → (wL_law_J629 K c31 x0 x1 x2 x3 x4 x5 x6 x7 x9 x11 x12 x14 x15 x16 x17 x18 x19 x21 x22 x23 x26 x27 (y0 &&& y1) h142)))))))))))))))))
def wL_law_J565 (K : Int32 → AH → Prop) (c31 : Nat → Nat → Nat → Int32 → Int32 → Int32 → Int32 → AH → Prop) (x0 : Nat) (x1 : Nat) (x2 : Nat) (x3 : Int32) (x4 : Int32) (x5 : Int32) (x6 : Int32) (x7 : Int64) (x9 : Int32) (x11 : Int32) (x12 : Int32) (x14 : Int32) (x15 : Int32) (x16 : Int32) (x17 : Int32) (x18 : Int32) (x19 : Int64) (x21 : Int32) (x22 : Int32) (x23 : Int32) (x26 : Int32) (x27 : Int32) (y0 : Int32) (h : AH) : Prop :=
  (wL_law_J570 K c31 x0 x1 x2 x3 x4 x5 x6 x7 x9 x11 x12 x14 x15 x16 x17 x18 x19 x21 x22 x23 x26 x27 y0 (nI 1) h)
def wL_law_J569 (K : Int32 → AH → Prop) (c31 : Nat → Nat → Nat → Int32 → Int32 → Int32 → Int32 → AH → Prop) (x0 : Nat) (x1 : Nat) (x2 : Nat) (x3 : Int32) (x4 : Int32) (x5 : Int32) (x6 : Int32) (x7 : Int64) (x9 : Int32) (x11 : Int32) (x12 : Int32) (x14 : Int32) (x15 : Int32) (x16 : Int32) (x17 : Int32) (x18 : Int32) (x19 : Int64) (x21 : Int32) (x22 : Int32) (x23 : Int32) (x26 : Int32) (x27 : Int32) (y0 : Int32) (h : AH) : Prop :=
  (wL_law_J570 K c31 x0 x1 x2 x3 x4 x5 x6 x7 x9 x11 x12 x14 x15 x16 x17 x18 x19 x21 x22 x23 x26 x27 y0 (nI 0) h)
def wL_law_J393 (K : Int32 → AH → Prop) (c31 : Nat → Nat → Nat → Int32 → Int32 → Int32 → Int32 → AH → Prop) (x0 : Nat) (x1 : Nat) (x2 : Nat) (x3 : Int32) (x4 : Int32) (x6 : Int32) (x7 : Int64) (x9 : Int32) (x11 : Int32) (x12 : Int32) (x13 : Int32) (x14 : Int32) (x15 : Int32) (x16 : Int32) (x17 : Int32) (x18 : Int32) (x19 : Int64) (x21 : Int32) (x22 : Int32) (x23 : Int32) (x25 : Int32) (x26 : Int32) (x27 : Int32) (x29 : Int32) (y0 : Int32) (y1 : Int32) (h : AH) : Prop :=
  ((x9 < (nI 22) → (wL_law_J565 K c31 x0 x1 x2 x3 x4 (y0 + y1) x6 x7 x9 x11 x12 x14 x15 x16 x17 x18 x19 x21 x22 x23 x26 x27 x29 h)) ∧ (¬ x9 < (nI 22) → (((nI 27) < x9 → (wL_law_J565 K c31 x0 x1 x2 x3 x4 (y0 + y1) x6 x7 x9 x11 x12 x14 x15 x16 x17 x18 x19 x21 x22 x23 x26 x27 x29 h)) ∧ (¬ (nI 27) < x9 → ((x27 = nI 0 → ((¬ x26 = (-75) → ((¬ x26 = (-79) → ((¬ x13 = nI 0 → (wL_law_J569 K c31 x0 x1 x2 x3 x4 (y0 + y1) x6 x7 x9 x11 x12 x14 x15 x16 x17 x18 x19 x21 x22 x23 x26 x27 x29 h)) ∧ (x13 = nI 0 → ((¬ x12 = nI 0 → (wL_law_J569 K c31 x0 x1 x2 x3 x4 (y0 + y1) x6 x7 x9 x11 x12 x14 x15 x16 x17 x18 x19 x21 x22 x23 x26 x27 x29 h)) ∧ (x12 = nI 0 → ((nI 0 ≤ x25 → wL_refusalReason x1 h (fun r153 h152 => wL_refusalBlock x1 h152 (fun r155 h154 => wL_blockState x1 r155 h154 (fun r157 h156 => ((¬ r153 = r157 → (wL_law_J569 K c31 x0 x1 x2 x3 x4 (y0 + y1) x6 x7 x9 x11 x12 x14 x15 x16 x17 x18 x19 x21 x22 x23 x26 x27 x29 h156)) ∧ (r153 = r157 → wL_refusalReason x1 h156 (fun r160 h159 => ((r160 = (nI 102) → (wL_law_J569 K c31 x0 x1 x2 x3 x4 (y0 + y1) x6 x7 x9 x11 x12 x14 x15 x16 x17 x18 x19 x21 x22 x23 x26 x27 x29 h159)) ∧ (¬ r160 = (nI 102) → (wL_law_J565 K c31 x0 x1 x2 x3 x4 (y0 + y1) x6 x7 x9 x11 x12 x14 x15 x16 x17 x18 x19 x21 x22 x23 x26 x27 x29 h159)))))))))) ∧ (¬ nI 0 ≤ x25 → wL_refusalReason x1 h (fun r163 h162 => ((¬ r163 = (nI 110) → (wL_law_J569 K c31 x0 x1 x2 x3 x4 (y0 + y1) x6 x7 x9 x11 x12 x14 x15 x16 x17 x18 x19 x21 x22 x23 x26 x27 x29 h162)) ∧ (r163 = (nI 110) → wL_refusalBlock x1 h162 (fun r166 h165 => ((¬ r166 = (-75) → (wL_law_J569 K c31 x0 x1 x2 x3 x4 (y0 + y1) x6 x7 x9 x11 x12 x14 x15 x16 x17 x18 x19 x21 x22 x23 x26 x27 x29 h165)) ∧ (r166 = (-75) → (wL_law_J565 K c31 x0 x1 x2 x3 x4 (y0 + y1) x6 x7 x9 x11 x12 x14 x15 x16 x17 x18 x19 x21 x22 x23 x26 x27 x29 h165)))))))))))))) ∧ (x26 = (-79) → ((¬ x12 = (nI 1) → (wL_law_J569 K c31 x0 x1 x2 x3 x4 (y0 + y1) x6 x7 x9 x11 x12 x14 x15 x16 x17 x18 x19 x21 x22 x23 x26 x27 x29 h)) ∧ (x12 = (nI 1) → (wL_law_J565 K c31 x0 x1 x2 x3 x4 (y0 + y1) x6 x7 x9 x11 x12 x14 x15 x16 x17 x18 x19 x21 x22 x23 x26 x27 x29 h)))))) ∧ (x26 = (-75) → ((nI 0 ≤ x12 → (wL_law_J569 K c31 x0 x1 x2 x3 x4 (y0 + y1) x6 x7 x9 x11 x12 x14 x15 x16 x17 x18 x19 x21 x22 x23 x26 x27 x29 h)) ∧ (¬ nI 0 ≤ x12 → (wL_law_J565 K c31 x0 x1 x2 x3 x4 (y0 + y1) x6 x7 x9 x11 x12 x14 x15 x16 x17 x18 x19 x21 x22 x23 x26 x27 x29 h)))))) ∧ (¬ x27 = nI 0 → ((¬ x13 = (nI 1) → (wL_law_J569 K c31 x0 x1 x2 x3 x4 (y0 + y1) x6 x7 x9 x11 x12 x14 x15 x16 x17 x18 x19 x21 x22 x23 x26 x27 x29 h)) ∧ (x13 = (nI 1) → ((¬ x26 = x25 → (wL_law_J569 K c31 x0 x1 x2 x3 x4 (y0 + y1) x6 x7 x9 x11 x12 x14 x15 x16 x17 x18 x19 x21 x22 x23 x26 x27 x29 h)) ∧ (x26 = x25 → wL_hasRoute x1 x11 h (fun r173 h172 => ((¬ r173 = (nI 1) → (wL_law_J569 K c31 x0 x1 x2 x3 x4 (y0 + y1) x6 x7 x9 x11 x12 x14 x15 x16 x17 x18 x19 x21 x22 x23 x26 x27 x29 h172)) ∧ (r173 = (nI 1) → wL_isClear x1 x11 h172 (fun r176 h175 => ((¬ r176 = nI 0 → (wL_law_J569 K c31 x0 x1 x2 x3 x4 (y0 + y1) x6 x7 x9 x11 x12 x14 x15 x16 x17 x18 x19 x21 x22 x23 x26 x27 x29 h175)) ∧ (r176 = nI 0 → wL_minutesUntilArrival x1 x11 h175 (fun r179 h178 => ((¬ r179 = x25 → (wL_law_J569 K c31 x0 x1 x2 x3 x4 (y0 + y1) x6 x7 x9 x11 x12 x14 x15 x16 x17 x18 x19 x21 x22 x23 x26 x27 x29 h178)) ∧ (r179 = x25 → wL_waiting x1 h178 (fun r182 h181 => ((¬ r182 = (x21 - (nI 1)) → (wL_law_J569 K c31 x0 x1 x2 x3 x4 (y0 + y1) x6 x7 x9 x11 x12 x14 x15 x16 x17 x18 x19 x21 x22 x23 x26 x27 x29 h181)) ∧ (r182 = (x21 - (nI 1)) → (wL_law_J565 K c31 x0 x1 x2 x3 x4 (y0 + y1) x6 x7 x9 x11 x12 x14 x15 x16 x17 x18 x19 x21 x22 x23 x26 x27 x29 h181)))))))))))))))))))))))
def wL_law_J379 (K : Int32 → AH → Prop) (c31 : Nat → Nat → Nat → Int32 → Int32 → Int32 → Int32 → AH → Prop) (x0 : Nat) (x1 : Nat) (x2 : Nat) (x3 : Int32) (x4 : Int32) (x5 : Int32) (x6 : Int32) (x7 : Int64) (x9 : Int32) (x11 : Int32) (x12 : Int32) (x13 : Int32) (x14 : Int32) (x15 : Int32) (x16 : Int32) (x17 : Int32) (x18 : Int32) (x19 : Int64) (x21 : Int32) (x22 : Int32) (x23 : Int32) (x25 : Int32) (x26 : Int32) (x27 : Int32) (x28 : Int32) (y0 : Int32) (h : AH) : Prop :=
  ((x28 = nI 0 → (wL_law_J393 K c31 x0 x1 x2 x3 x4 x6 x7 x9 x11 x12 x13 x14 x15 x16 x17 x18 x19 x21 x22 x23 x25 x26 x27 y0 x5 (nI 0) h)) ∧ (¬ x28 = nI 0 → (wL_law_J393 K c31 x0 x1 x2 x3 x4 x6 x7 x9 x11 x12 x13 x14 x15 x16 x17 x18 x19 x21 x22 x23 x25 x26 x27 y0 x5 (nI 1) h)))
def wL_law_J374 (K : Int32 → AH → Prop) (c31 : Nat → Nat → Nat → Int32 → Int32 → Int32 → Int32 → AH → Prop) (x0 : Nat) (x1 : Nat) (x2 : Nat) (x3 : Int32) (x4 : Int32) (x5 : Int32) (x6 : Int32) (x7 : Int64) (x9 : Int32) (x11 : Int32) (x12 : Int32) (x13 : Int32) (x14 : Int32) (x15 : Int32) (x16 : Int32) (x17 : Int32) (x18 : Int32) (x19 : Int64) (x21 : Int32) (x22 : Int32) (x23 : Int32) (x25 : Int32) (x26 : Int32) (x27 : Int32) (x28 : Int32) (h : AH) : Prop :=
  (wL_law_J379 K c31 x0 x1 x2 x3 x4 x5 x6 x7 x9 x11 x12 x13 x14 x15 x16 x17 x18 x19 x21 x22 x23 x25 x26 x27 x28 (nI 1) h)
def wL_law_J378 (K : Int32 → AH → Prop) (c31 : Nat → Nat → Nat → Int32 → Int32 → Int32 → Int32 → AH → Prop) (x0 : Nat) (x1 : Nat) (x2 : Nat) (x3 : Int32) (x4 : Int32) (x5 : Int32) (x6 : Int32) (x7 : Int64) (x9 : Int32) (x11 : Int32) (x12 : Int32) (x13 : Int32) (x14 : Int32) (x15 : Int32) (x16 : Int32) (x17 : Int32) (x18 : Int32) (x19 : Int64) (x21 : Int32) (x22 : Int32) (x23 : Int32) (x25 : Int32) (x26 : Int32) (x27 : Int32) (x28 : Int32) (h : AH) : Prop :=
  (wL_law_J379 K c31 x0 x1 x2 x3 x4 x5 x6 x7 x9 x11 x12 x13 x14 x15 x16 x17 x18 x19 x21 x22 x23 x25 x26 x27 x28 (nI 0) h)
def wL_law_J322 (K : Int32 → AH → Prop) (c31 : Nat → Nat → Nat → Int32 → Int32 → Int32 → Int32 → AH → Prop) (x0 : Nat) (x1 : Nat) (x2 : Nat) (x3 : Int32) (x4 : Int32) (x5 : Int32) (x6 : Int32) (x7 : Int64) (x9 : Int32) (x11 : Int32) (x12 : Int32) (x13 : Int32) (x14 : Int32) (x15 : Int32) (x16 : Int32) (x17 : Int32) (x18 : Int32) (x19 : Int64) (x21 : Int32) (x22 : Int32) (x23 : Int32) (x25 : Int32) (x26 : Int32) (x27 : Int32) (y0 : Int32) (h : AH) : Prop :=
  ((y0 = nI 0 → (wL_law_J374 K c31 x0 x1 x2 x3 x4 x5 x6 x7 x9 x11 x12 x13 x14 x15 x16 x17 x18 x19 x21 x22 x23 x25 x26 x27 y0 h)) ∧ (¬ y0 = nI 0 → ((¬ x26 = x5 → (wL_law_J378 K c31 x0 x1 x2 x3 x4 x5 x6 x7 x9 x11 x12 x13 x14 x15 x16 x17 x18 x19 x21 x22 x23 x25 x26 x27 y0 h)) ∧ (x26 = x5 → (isO h x1 0) ∧ wX9_isPresent x1 x26 h (fun r186 h185 => ((r186 = nI 0 → (wL_law_J378 K c31 x0 x1 x2 x3 x4 x5 x6 x7 x9 x11 x12 x13 x14 x15 x16 x17 x18 x19 x21 x22 x23 x25 x26 x27 y0 h185)) ∧ (¬ r186 = nI 0 → wL_hasRoute x1 x26 h185 (fun r189 h188 => ((¬ r189 = nI 0 → (wL_law_J378 K c31 x0 x1 x2 x3 x4 x5 x6 x7 x9 x11 x12 x13 x14 x15 x16 x17 x18 x19 x21 x22 x23 x25 x26 x27 y0 h188)) ∧ (r189 = nI 0 → wL_queued x1 x21 h188 (fun r192 h191 => ((¬ r192 = x26 → (wL_law_J378 K c31 x0 x1 x2 x3 x4 x5 x6 x7 x9 x11 x12 x13 x14 x15 x16 x17 x18 x19 x21 x22 x23 x25 x26 x27 y0 h191)) ∧ (r192 = x26 → wL_delay x1 x26 h191 (fun r195 h194 => ((¬ r195 = nI 0 → (wL_law_J378 K c31 x0 x1 x2 x3 x4 x5 x6 x7 x9 x11 x12 x13 x14 x15 x16 x17 x18 x19 x21 x22 x23 x25 x26 x27 y0 h194)) ∧ (r195 = nI 0 → (wL_law_J374 K c31 x0 x1 x2 x3 x4 x5 x6 x7 x9 x11 x12 x13 x14 x15 x16 x17 x18 x19 x21 x22 x23 x25 x26 x27 y0 h194)))))))))))))))))
def wL_law_J321 (K : Int32 → AH → Prop) (c31 : Nat → Nat → Nat → Int32 → Int32 → Int32 → Int32 → AH → Prop) (x0 : Nat) (x1 : Nat) (x2 : Nat) (x3 : Int32) (x4 : Int32) (x5 : Int32) (x6 : Int32) (x7 : Int64) (x9 : Int32) (x11 : Int32) (x12 : Int32) (x13 : Int32) (x14 : Int32) (x15 : Int32) (x16 : Int32) (x17 : Int32) (x18 : Int32) (x19 : Int64) (x21 : Int32) (x22 : Int32) (x23 : Int32) (x25 : Int32) (x26 : Int32) (x27 : Int32) (h : AH) : Prop :=
  (wL_law_J322 K c31 x0 x1 x2 x3 x4 x5 x6 x7 x9 x11 x12 x13 x14 x15 x16 x17 x18 x19 x21 x22 x23 x25 x26 x27 (nI 0) h)
def wL_law_J296 (K : Int32 → AH → Prop) (c31 : Nat → Nat → Nat → Int32 → Int32 → Int32 → Int32 → AH → Prop) (x0 : Nat) (x1 : Nat) (x2 : Nat) (x3 : Int32) (x4 : Int32) (x5 : Int32) (x6 : Int32) (x7 : Int64) (x9 : Int32) (x11 : Int32) (x12 : Int32) (x13 : Int32) (x14 : Int32) (x15 : Int32) (x16 : Int32) (x17 : Int32) (x18 : Int32) (x19 : Int64) (x21 : Int32) (x22 : Int32) (x23 : Int32) (x25 : Int32) (x26 : Int32) (y0 : Int32) (h : AH) : Prop :=
  ((y0 = nI 0 → (wL_law_J321 K c31 x0 x1 x2 x3 x4 x5 x6 x7 x9 x11 x12 x13 x14 x15 x16 x17 x18 x19 x21 x22 x23 x25 x26 y0 h)) ∧ (¬ y0 = nI 0 → ((x9 ≤ (nI 13) → (wL_law_J321 K c31 x0 x1 x2 x3 x4 x5 x6 x7 x9 x11 x12 x13 x14 x15 x16 x17 x18 x19 x21 x22 x23 x25 x26 y0 h)) ∧ (¬ x9 ≤ (nI 13) → (((nI 22) ≤ x9 → (wL_law_J321 K c31 x0 x1 x2 x3 x4 x5 x6 x7 x9 x11 x12 x13 x14 x15 x16 x17 x18 x19 x21 x22 x23 x25 x26 y0 h)) ∧ (¬ (nI 22) ≤ x9 → (wL_law_J322 K c31 x0 x1 x2 x3 x4 x5 x6 x7 x9 x11 x12 x13 x14 x15 x16 x17 x18 x19 x21 x22 x23 x25 x26 y0 (nI 1) h)))))))
def wL_law_J267 (K : Int32 → AH → Prop) (c31 : Nat → Nat → Nat → Int32 → Int32 → Int32 → Int32 → AH → Prop) (x0 : Nat) (x1 : Nat) (x2 : Nat) (x3 : Int32) (x4 : Int32) (x5 : Int32) (x6 : Int32) (x7 : Int64) (x9 : Int32) (x11 : Int32) (x12 : Int32) (x13 : Int32) (x14 : Int32) (x15 : Int32) (x16 : Int32) (x17 : Int32) (x18 : Int32) (x19 : Int64) (x21 : Int32) (x22 : Int32) (x23 : Int32) (y0 : Int32) (h : AH) : Prop :=
  wL_does x0 x4 x9 x1 x11 x14 h (fun r62 h61 => ((r62 ≤ (-70) → (wL_law_J296 K c31 x0 x1 x2 x3 x4 x5 x6 x7 x9 x11 x12 x13 x14 x15 x16 x17 x18 x19 x21 x22 x23 y0 r62 (nI 0) h61)) ∧ (¬ r62 ≤ (-70) → (wL_law_J296 K c31 x0 x1 x2 x3 x4 x5 x6 x7 x9 x11 x12 x13 x14 x15 x16 x17 x18 x19 x21 x22 x23 y0 r62 (nI 1) h61))))
def wL_law_J247 (K : Int32 → AH → Prop) (c31 : Nat → Nat → Nat → Int32 → Int32 → Int32 → Int32 → AH → Prop) (x0 : Nat) (x1 : Nat) (x2 : Nat) (x3 : Int32) (x4 : Int32) (x5 : Int32) (x6 : Int32) (x7 : Int64) (x9 : Int32) (x11 : Int32) (x12 : Int32) (x13 : Int32) (x14 : Int32) (x15 : Int32) (x16 : Int32) (x17 : Int32) (x18 : Int32) (x19 : Int64) (x21 : Int32) (x22 : Int32) (x23 : Int32) (y0 : Int32) (h : AH) : Prop :=
  ((nI 0 ≤ x12 → wL_routeLength x1 x23 y0 h (fun r60 h59 => (wL_law_J267 K c31 x0 x1 x2 x3 x4 x5 x6 x7 x9 x11 x12 x13 x14 x15 x16 x17 x18 x19 x21 x22 x23 r60 h59))) ∧ (¬ nI 0 ≤ x12 → (wL_law_J267 K c31 x0 x1 x2 x3 x4 x5 x6 x7 x9 x11 x12 x13 x14 x15 x16 x17 x18 x19 x21 x22 x23 (-75) h)))
def wL_law_J230 (K : Int32 → AH → Prop) (c31 : Nat → Nat → Nat → Int32 → Int32 → Int32 → Int32 → AH → Prop) (x0 : Nat) (x1 : Nat) (x2 : Nat) (x3 : Int32) (x4 : Int32) (x5 : Int32) (x6 : Int32) (x7 : Int64) (x9 : Int32) (x11 : Int32) (x12 : Int32) (x13 : Int32) (x14 : Int32) (x15 : Int32) (x16 : Int32) (x17 : Int32) (x18 : Int32) (x19 : Int64) (x21 : Int32) (x22 : Int32) (y0 : Int32) (h : AH) : Prop :=
  ((nI 0 ≤ x12 → wL_destination x1 x11 h (fun r57 h56 => (wL_law_J247 K c31 x0 x1 x2 x3 x4 x5 x6 x7 x9 x11 x12 x13 x14 x15 x16 x17 x18 x19 x21 x22 y0 r57 h56))) ∧ (¬ nI 0 ≤ x12 → (wL_law_J247 K c31 x0 x1 x2 x3 x4 x5 x6 x7 x9 x11 x12 x13 x14 x15 x16 x17 x18 x19 x21 x22 y0 (-1) h)))
def wL_law_J134 (K : Int32 → AH → Prop) (c31 : Nat → Nat → Nat → Int32 → Int32 → Int32 → Int32 → AH → Prop) (x0 : Nat) (x1 : Nat) (x2 : Nat) (x3 : Int32) (x4 : Int32) (x5 : Int32) (x6 : Int32) (x7 : Int64) (x9 : Int32) (y0 : Nat) (y1 : Int32) (y2 : Int32) (y3 : Int32) (h : AH) : Prop :=
  wL_trainOf y0 y1 y2 y3 h (fun r31 h30 => wL_hasRoute x1 r31 h30 (fun r33 h32 => wL_isClear x1 r31 h32 (fun r35 h34 => wL_pick x0 (x4 + (nI 2)) (nI 6) h34 (fun r37 h36 => wL_minutesUntilArrival x1 r31 h36 (fun r39 h38 => wL_minutesUntilNext x1 r31 h38 (fun r41 h40 => (isO h40 x1 0) ∧ wX9_arrived x1 h40 (fun r43 h42 => (isO h42 x1 0) ∧ wX9_time x1 h42 (fun r45 h44 => (isO h44 x1 0) ∧ wX9_totalDelay x1 h44 (fun r47 h46 => wL_waiting x1 h46 (fun r49 h48 => (isO h48 x1 0) ∧ wX9_trains x1 h48 (fun r51 h50 => ((nI 0 ≤ r33 → wL_blockOf x1 r31 h50 (fun r54 h53 => (wL_law_J230 K c31 x0 x1 x2 x3 x4 x5 x6 x7 x9 r31 r33 r35 ((nI 1) + r37) r39 r41 r43 r45 r47 r49 r51 r54 h53))) ∧ (¬ nI 0 ≤ r33 → (wL_law_J230 K c31 x0 x1 x2 x3 x4 x5 x6 x7 x9 r31 r33 r35 ((nI 1) + r37) r39 r41 r43 r45 r47 r49 r51 (-1) h50))))))))))))))
def wL_law_J98 (K : Int32 → AH → Prop) (c31 : Nat → Nat → Nat → Int32 → Int32 → Int32 → Int32 → AH → Prop) (x0 : Nat) (x1 : Nat) (x2 : Nat) (x3 : Int32) (x4 : Int32) (x5 : Int32) (x6 : Int32) (x7 : Int64) (y0 : Int32) (h : AH) : Prop :=
  (isO h x1 0) ∧ wX9_blocks x1 h (fun r26 h25 => wL_pick x0 (x4 + (nI 1)) (nI 8) h25 (fun r28 h27 => ((¬ (x6 - x6 / (nI 13) * (nI 13)) = (nI 12) → (wL_law_J134 K c31 x0 x1 x2 x3 x4 x5 x6 x7 y0 x1 x5 r28 (nI 0) h27)) ∧ ((x6 - x6 / (nI 13) * (nI 13)) = (nI 12) → (wL_law_J134 K c31 x0 x1 x2 x3 x4 x5 x6 x7 y0 x1 x5 r28 (nI 1) h27)))))
def wL_law_L31 (K : Int32 → AH → Prop)   : Nat → Nat → Nat → Nat → Nat → Int32 → Int32 → Int32 → Int32 → AH → Prop
  | 0 => fun _ _ _ _ _ _ _ _ _ => False
  | n + 1 => fun b x0 x1 x2 x3 x4 x5 x6 h =>
  (((nI 54) ≤ x6 → (0 < b) ∧ wL_isKept x1 x2 x3 h (fun r14 h13 => (narrow .boolean (.int r14) = .int r14) ∧ K r14 h13)) ∧ (¬ (nI 54) ≤ x6 → (0 < b) ∧ wL_sum x1 h (fun r18 h17 => (((nI 8) ≤ x6 → (((nI 12) ≤ x6 → (((nI 17) ≤ x6 → (((nI 20) ≤ x6 → wL_pick x0 x4 (nI 48) h17 (fun r24 h23 => (wL_law_J98 K (wL_law_L31 K   n (b - 1)) x0 x1 x2 x3 x4 x5 x6 r18 r24 h23))) ∧ (¬ (nI 20) ≤ x6 → (wL_law_J98 K (wL_law_L31 K   n (b - 1)) x0 x1 x2 x3 x4 x5 x6 r18 (nI 14) h17)))) ∧ (¬ (nI 17) ≤ x6 → (wL_law_J98 K (wL_law_L31 K   n (b - 1)) x0 x1 x2 x3 x4 x5 x6 r18 (nI 7) h17)))) ∧ (¬ (nI 12) ≤ x6 → (wL_law_J98 K (wL_law_L31 K   n (b - 1)) x0 x1 x2 x3 x4 x5 x6 r18 (nI 4) h17)))) ∧ (¬ (nI 8) ≤ x6 → (wL_law_J98 K (wL_law_L31 K   n (b - 1)) x0 x1 x2 x3 x4 x5 x6 r18 (nI 0) h17))))))
def wL_law (a0 : Nat) (h : AH) (K : Int32 → AH → Prop) : Prop :=
  ∀ h1, h1 = nw h 1 0 → (¬ mN h = 0) ∧ wX9_init (mN h) h1 (fun h2 => ∀ h4, h4 = nw h2 101 70 → wL_sum (mN h) h4 (fun r6 h5 => (isA h5 (mN h2) 1) ∧ (nZ ≤ (mN h2)) ∧ (vp_in (nI 0) (ln h5 (mN h2))) ∧ ∀ h10, h10 = uL h5 (mN h2) (nI 0).toNatClampNeg r6 → (∃ n205 bn205, bn205 ≤ 54 ∧ wL_law_L31 K  n205 bn205 a0 (mN h) (mN h2) (nI 0) (nI 0) (nI 0) (nI 0) h10)))
end
