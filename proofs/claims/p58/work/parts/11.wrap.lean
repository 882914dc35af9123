/-! TYPED ENDS; CALLS BY KIND AND ANSWER -/
def KI (K : Int32 → AH → Prop) : Option Value → AH → Prop := fun o h => ∃ x, o = some (.int x) ∧ K x h
def KL (K : Int64 → AH → Prop) : Option Value → AH → Prop := fun o h => ∃ x, o = some (.long x) ∧ K x h
def KF (K : UInt32 → AH → Prop) : Option Value → AH → Prop := fun o h => ∃ x, o = some (.float x) ∧ K x h
def KD (K : UInt64 → AH → Prop) : Option Value → AH → Prop := fun o h => ∃ x, o = some (.double x) ∧ K x h
def KR (K : Nat → AH → Prop) : Option Value → AH → Prop := fun o h => ∃ x, o = some (.ref x) ∧ K x h
def KV (K : AH → Prop) : Option Value → AH → Prop := fun o h => o = none ∧ K h
abbrev T0 : String → AH → Prop := fun _ _ => False
def isO (h : AH) (a ci : Nat) : Prop := mS h a = (ci + 1, 0)
def isA (h : AH) (a t : Nat) : Prop := (mS h a).1 = 100 + t
def ln (h : AH) (a : Nat) : Nat := (mS h a).2
theorem isA_eq {h : AH} {a t : Nat} (x : isA h a t) : mS h a = (100 + t, ln h a) := Prod.ext x rfl
section WR
variable {M : Mt} {lv : Nat} {K : Option Value → AH → Prop} {T : String → AH → Prop} {rc rs pc : Nat} {ls : List (Nat × Value)} {st : List Value} {h : AH}
theorem XT_room {E : String} {rc' rs' : Nat} (h1 : rc' ≤ rc) (h2 : rs' ≤ rs) (k : XT M lv K T rc' rs' E pc ls h) : XT M lv K T rc rs E pc ls h := by
  intro p l e R s m args below meth c D tc A n0 ad0 h0 Q ad H locs cells slots la q ce st C hR hE hls hla hc hs g1 g2 g3 eR eT
  exact k p l e R s m args below meth c D tc A n0 ad0 h0 Q ad H locs cells slots la q ce st C hR hE hls hla (by omega) (by omega) g1 g2 g3 eR eT
theorem X_pick {ls' : List (Nat × Value)} (ks : List Nat) (hl : lv_pick ls ks = ls') (k : X M lv K T rc rs pc ls' st h) : X M lv K T rc rs pc ls st h := X_sub (fun q hq => by
  rw [← hl] at hq
  obtain ⟨i, -, hi⟩ := List.mem_filterMap.mp hq
  exact List.mem_of_getElem? hi) k
theorem rcvD {b ci : Nat} {C : String} {TT : u_T} {N : Nat} (ho : isO h b ci) (hc : ci < 9) (hC : CL[ci]? = some (C, TT, N)) : rcv h b C := Or.inl ⟨ci, TT, N, ho, hc, hC⟩
theorem X_topi {x : Int32} (k : ∀ y, y = x → X M lv K T rc rs pc ls (.int y :: st) h) : X M lv K T rc rs pc ls (.int x :: st) h := k x rfl
theorem X_vI {M' : Mt} {idx n lv' mc ms rc' rs' b : Nat} {C : String} {as stk : List Value} {Kt : Int32 → AH → Prop} {T' : String → AH → Prop} (hm : MV M.1.cls idx M' n C) (hd : decode M.2.1 pc = .ok (.invokevirtual idx, 3)) (hlv : lv' + 1 ≤ lv) (h1 : rc' + mc ≤ rc) (h2 : rs' + ms ≤ rs) (hn : as.length = n) (hstk : stk = as.reverse ++ .ref b :: st) (hwt : (st.map fun v => v.category).sum ≤ 8) (hr : rcv h b C) (hC : Cn M' (cwd M') lv' mc ms (.ref b :: as) h (KI Kt) T') (kt : ∀ E h', T' E h' → XT M lv K T rc' rs' E pc ls h') (kr : ∀ r h', Kt r h' → X M lv K T rc' rs' (pc + 3) ls (.int r :: st) h') : X M lv K T rc rs pc ls stk h :=
  X_callV hm hd hlv (by omega) (by omega) hn hstk hwt hr hC (fun v h' hk => by
    obtain ⟨r, rfl, hk⟩ := hk
    exact X_room (by omega) (by omega) (kr r h' hk)) (fun E h' hk => XT_room (by omega) (by omega) (kt E h' hk))
theorem X_sI {M' : Mt} {idx n lv' mc ms rc' rs' : Nat} {as stk : List Value} {Kt : Int32 → AH → Prop} {T' : String → AH → Prop} (hm : MS M.1.cls idx M' n) (hd : decode M.2.1 pc = .ok (.invokestatic idx, 3)) (hlv : lv' + 1 ≤ lv) (h1 : rc' + mc ≤ rc) (h2 : rs' + ms ≤ rs) (hn : as.length = n) (hstk : stk = as.reverse ++ st) (hwt : (st.map fun v => v.category).sum ≤ 8) (hC : Cn M' (cwd M') lv' mc ms as h (KI Kt) T') (kt : ∀ E h', T' E h' → XT M lv K T rc' rs' E pc ls h') (kr : ∀ r h', Kt r h' → X M lv K T rc' rs' (pc + 3) ls (.int r :: st) h') : X M lv K T rc rs pc ls stk h :=
  X_callS hm hd hlv (by omega) (by omega) hn hstk hwt hC (fun v h' hk => by
    obtain ⟨r, rfl, hk⟩ := hk
    exact X_room (by omega) (by omega) (kr r h' hk)) (fun E h' hk => XT_room (by omega) (by omega) (kt E h' hk))
theorem X_nI {M' : Mt} {idx n lv' mc ms rc' rs' : Nat} {as stk : List Value} {Kt : Int32 → AH → Prop} (hm : MSN M.1.cls idx M' n) (hd : decode M.2.1 pc = .ok (.invokestatic idx, 3)) (hlv : lv' + 1 ≤ lv) (h1 : rc' + mc ≤ rc) (h2 : rs' + ms ≤ rs) (hn : as.length = n) (hstk : stk = as.reverse ++ st) (hwt : (st.map fun v => v.category).sum ≤ 8) (hC : Cn M' (cwd M') lv' mc ms as h (KI Kt) T0) (kr : ∀ r h', Kt r h' → X M lv K T rc' rs' (pc + 3) ls (.int r :: st) h') : X M lv K T rc rs pc ls stk h :=
  X_callSN hm hd hlv (by omega) (by omega) hn hstk hwt hC (fun v h' hk => by
    obtain ⟨r, rfl, hk⟩ := hk
    exact X_room (by omega) (by omega) (kr r h' hk))
theorem X_vL {M' : Mt} {idx n lv' mc ms rc' rs' b : Nat} {C : String} {as stk : List Value} {Kt : Int64 → AH → Prop} {T' : String → AH → Prop} (hm : MV M.1.cls idx M' n C) (hd : decode M.2.1 pc = .ok (.invokevirtual idx, 3)) (hlv : lv' + 1 ≤ lv) (h1 : rc' + mc ≤ rc) (h2 : rs' + ms ≤ rs) (hn : as.length = n) (hstk : stk = as.reverse ++ .ref b :: st) (hwt : (st.map fun v => v.category).sum ≤ 8) (hr : rcv h b C) (hC : Cn M' (cwd M') lv' mc ms (.ref b :: as) h (KL Kt) T') (kt : ∀ E h', T' E h' → XT M lv K T rc' rs' E pc ls h') (kr : ∀ r h', Kt r h' → X M lv K T rc' rs' (pc + 3) ls (.long r :: st) h') : X M lv K T rc rs pc ls stk h :=
  X_callV hm hd hlv (by omega) (by omega) hn hstk hwt hr hC (fun v h' hk => by
    obtain ⟨r, rfl, hk⟩ := hk
    exact X_room (by omega) (by omega) (kr r h' hk)) (fun E h' hk => XT_room (by omega) (by omega) (kt E h' hk))
theorem X_sL {M' : Mt} {idx n lv' mc ms rc' rs' : Nat} {as stk : List Value} {Kt : Int64 → AH → Prop} {T' : String → AH → Prop} (hm : MS M.1.cls idx M' n) (hd : decode M.2.1 pc = .ok (.invokestatic idx, 3)) (hlv : lv' + 1 ≤ lv) (h1 : rc' + mc ≤ rc) (h2 : rs' + ms ≤ rs) (hn : as.length = n) (hstk : stk = as.reverse ++ st) (hwt : (st.map fun v => v.category).sum ≤ 8) (hC : Cn M' (cwd M') lv' mc ms as h (KL Kt) T') (kt : ∀ E h', T' E h' → XT M lv K T rc' rs' E pc ls h') (kr : ∀ r h', Kt r h' → X M lv K T rc' rs' (pc + 3) ls (.long r :: st) h') : X M lv K T rc rs pc ls stk h :=
  X_callS hm hd hlv (by omega) (by omega) hn hstk hwt hC (fun v h' hk => by
    obtain ⟨r, rfl, hk⟩ := hk
    exact X_room (by omega) (by omega) (kr r h' hk)) (fun E h' hk => XT_room (by omega) (by omega) (kt E h' hk))
theorem X_nL {M' : Mt} {idx n lv' mc ms rc' rs' : Nat} {as stk : List Value} {Kt : Int64 → AH → Prop} (hm : MSN M.1.cls idx M' n) (hd : decode M.2.1 pc = .ok (.invokestatic idx, 3)) (hlv : lv' + 1 ≤ lv) (h1 : rc' + mc ≤ rc) (h2 : rs' + ms ≤ rs) (hn : as.length = n) (hstk : stk = as.reverse ++ st) (hwt : (st.map fun v => v.category).sum ≤ 8) (hC : Cn M' (cwd M') lv' mc ms as h (KL Kt) T0) (kr : ∀ r h', Kt r h' → X M lv K T rc' rs' (pc + 3) ls (.long r :: st) h') : X M lv K T rc rs pc ls stk h :=
  X_callSN hm hd hlv (by omega) (by omega) hn hstk hwt hC (fun v h' hk => by
    obtain ⟨r, rfl, hk⟩ := hk
    exact X_room (by omega) (by omega) (kr r h' hk))
theorem X_vF {M' : Mt} {idx n lv' mc ms rc' rs' b : Nat} {C : String} {as stk : List Value} {Kt : UInt32 → AH → Prop} {T' : String → AH → Prop} (hm : MV M.1.cls idx M' n C) (hd : decode M.2.1 pc = .ok (.invokevirtual idx, 3)) (hlv : lv' + 1 ≤ lv) (h1 : rc' + mc ≤ rc) (h2 : rs' + ms ≤ rs) (hn : as.length = n) (hstk : stk = as.reverse ++ .ref b :: st) (hwt : (st.map fun v => v.category).sum ≤ 8) (hr : rcv h b C) (hC : Cn M' (cwd M') lv' mc ms (.ref b :: as) h (KF Kt) T') (kt : ∀ E h', T' E h' → XT M lv K T rc' rs' E pc ls h') (kr : ∀ r h', Kt r h' → X M lv K T rc' rs' (pc + 3) ls (.float r :: st) h') : X M lv K T rc rs pc ls stk h :=
  X_callV hm hd hlv (by omega) (by omega) hn hstk hwt hr hC (fun v h' hk => by
    obtain ⟨r, rfl, hk⟩ := hk
    exact X_room (by omega) (by omega) (kr r h' hk)) (fun E h' hk => XT_room (by omega) (by omega) (kt E h' hk))
theorem X_sF {M' : Mt} {idx n lv' mc ms rc' rs' : Nat} {as stk : List Value} {Kt : UInt32 → AH → Prop} {T' : String → AH → Prop} (hm : MS M.1.cls idx M' n) (hd : decode M.2.1 pc = .ok (.invokestatic idx, 3)) (hlv : lv' + 1 ≤ lv) (h1 : rc' + mc ≤ rc) (h2 : rs' + ms ≤ rs) (hn : as.length = n) (hstk : stk = as.reverse ++ st) (hwt : (st.map fun v => v.category).sum ≤ 8) (hC : Cn M' (cwd M') lv' mc ms as h (KF Kt) T') (kt : ∀ E h', T' E h' → XT M lv K T rc' rs' E pc ls h') (kr : ∀ r h', Kt r h' → X M lv K T rc' rs' (pc + 3) ls (.float r :: st) h') : X M lv K T rc rs pc ls stk h :=
  X_callS hm hd hlv (by omega) (by omega) hn hstk hwt hC (fun v h' hk => by
    obtain ⟨r, rfl, hk⟩ := hk
    exact X_room (by omega) (by omega) (kr r h' hk)) (fun E h' hk => XT_room (by omega) (by omega) (kt E h' hk))
theorem X_nF {M' : Mt} {idx n lv' mc ms rc' rs' : Nat} {as stk : List Value} {Kt : UInt32 → AH → Prop} (hm : MSN M.1.cls idx M' n) (hd : decode M.2.1 pc = .ok (.invokestatic idx, 3)) (hlv : lv' + 1 ≤ lv) (h1 : rc' + mc ≤ rc) (h2 : rs' + ms ≤ rs) (hn : as.length = n) (hstk : stk = as.reverse ++ st) (hwt : (st.map fun v => v.category).sum ≤ 8) (hC : Cn M' (cwd M') lv' mc ms as h (KF Kt) T0) (kr : ∀ r h', Kt r h' → X M lv K T rc' rs' (pc + 3) ls (.float r :: st) h') : X M lv K T rc rs pc ls stk h :=
  X_callSN hm hd hlv (by omega) (by omega) hn hstk hwt hC (fun v h' hk => by
    obtain ⟨r, rfl, hk⟩ := hk
    exact X_room (by omega) (by omega) (kr r h' hk))
theorem X_vD {M' : Mt} {idx n lv' mc ms rc' rs' b : Nat} {C : String} {as stk : List Value} {Kt : UInt64 → AH → Prop} {T' : String → AH → Prop} (hm : MV M.1.cls idx M' n C) (hd : decode M.2.1 pc = .ok (.invokevirtual idx, 3)) (hlv : lv' + 1 ≤ lv) (h1 : rc' + mc ≤ rc) (h2 : rs' + ms ≤ rs) (hn : as.length = n) (hstk : stk = as.reverse ++ .ref b :: st) (hwt : (st.map fun v => v.category).sum ≤ 8) (hr : rcv h b C) (hC : Cn M' (cwd M') lv' mc ms (.ref b :: as) h (KD Kt) T') (kt : ∀ E h', T' E h' → XT M lv K T rc' rs' E pc ls h') (kr : ∀ r h', Kt r h' → X M lv K T rc' rs' (pc + 3) ls (.double r :: st) h') : X M lv K T rc rs pc ls stk h :=
  X_callV hm hd hlv (by omega) (by omega) hn hstk hwt hr hC (fun v h' hk => by
    obtain ⟨r, rfl, hk⟩ := hk
    exact X_room (by omega) (by omega) (kr r h' hk)) (fun E h' hk => XT_room (by omega) (by omega) (kt E h' hk))
theorem X_sD {M' : Mt} {idx n lv' mc ms rc' rs' : Nat} {as stk : List Value} {Kt : UInt64 → AH → Prop} {T' : String → AH → Prop} (hm : MS M.1.cls idx M' n) (hd : decode M.2.1 pc = .ok (.invokestatic idx, 3)) (hlv : lv' + 1 ≤ lv) (h1 : rc' + mc ≤ rc) (h2 : rs' + ms ≤ rs) (hn : as.length = n) (hstk : stk = as.reverse ++ st) (hwt : (st.map fun v => v.category).sum ≤ 8) (hC : Cn M' (cwd M') lv' mc ms as h (KD Kt) T') (kt : ∀ E h', T' E h' → XT M lv K T rc' rs' E pc ls h') (kr : ∀ r h', Kt r h' → X M lv K T rc' rs' (pc + 3) ls (.double r :: st) h') : X M lv K T rc rs pc ls stk h :=
  X_callS hm hd hlv (by omega) (by omega) hn hstk hwt hC (fun v h' hk => by
    obtain ⟨r, rfl, hk⟩ := hk
    exact X_room (by omega) (by omega) (kr r h' hk)) (fun E h' hk => XT_room (by omega) (by omega) (kt E h' hk))
theorem X_nD {M' : Mt} {idx n lv' mc ms rc' rs' : Nat} {as stk : List Value} {Kt : UInt64 → AH → Prop} (hm : MSN M.1.cls idx M' n) (hd : decode M.2.1 pc = .ok (.invokestatic idx, 3)) (hlv : lv' + 1 ≤ lv) (h1 : rc' + mc ≤ rc) (h2 : rs' + ms ≤ rs) (hn : as.length = n) (hstk : stk = as.reverse ++ st) (hwt : (st.map fun v => v.category).sum ≤ 8) (hC : Cn M' (cwd M') lv' mc ms as h (KD Kt) T0) (kr : ∀ r h', Kt r h' → X M lv K T rc' rs' (pc + 3) ls (.double r :: st) h') : X M lv K T rc rs pc ls stk h :=
  X_callSN hm hd hlv (by omega) (by omega) hn hstk hwt hC (fun v h' hk => by
    obtain ⟨r, rfl, hk⟩ := hk
    exact X_room (by omega) (by omega) (kr r h' hk))
theorem X_vR {M' : Mt} {idx n lv' mc ms rc' rs' b : Nat} {C : String} {as stk : List Value} {Kt : Nat → AH → Prop} {T' : String → AH → Prop} (hm : MV M.1.cls idx M' n C) (hd : decode M.2.1 pc = .ok (.invokevirtual idx, 3)) (hlv : lv' + 1 ≤ lv) (h1 : rc' + mc ≤ rc) (h2 : rs' + ms ≤ rs) (hn : as.length = n) (hstk : stk = as.reverse ++ .ref b :: st) (hwt : (st.map fun v => v.category).sum ≤ 8) (hr : rcv h b C) (hC : Cn M' (cwd M') lv' mc ms (.ref b :: as) h (KR Kt) T') (kt : ∀ E h', T' E h' → XT M lv K T rc' rs' E pc ls h') (kr : ∀ r h', Kt r h' → X M lv K T rc' rs' (pc + 3) ls (.ref r :: st) h') : X M lv K T rc rs pc ls stk h :=
  X_callV hm hd hlv (by omega) (by omega) hn hstk hwt hr hC (fun v h' hk => by
    obtain ⟨r, rfl, hk⟩ := hk
    exact X_room (by omega) (by omega) (kr r h' hk)) (fun E h' hk => XT_room (by omega) (by omega) (kt E h' hk))
theorem X_sR {M' : Mt} {idx n lv' mc ms rc' rs' : Nat} {as stk : List Value} {Kt : Nat → AH → Prop} {T' : String → AH → Prop} (hm : MS M.1.cls idx M' n) (hd : decode M.2.1 pc = .ok (.invokestatic idx, 3)) (hlv : lv' + 1 ≤ lv) (h1 : rc' + mc ≤ rc) (h2 : rs' + ms ≤ rs) (hn : as.length = n) (hstk : stk = as.reverse ++ st) (hwt : (st.map fun v => v.category).sum ≤ 8) (hC : Cn M' (cwd M') lv' mc ms as h (KR Kt) T') (kt : ∀ E h', T' E h' → XT M lv K T rc' rs' E pc ls h') (kr : ∀ r h', Kt r h' → X M lv K T rc' rs' (pc + 3) ls (.ref r :: st) h') : X M lv K T rc rs pc ls stk h :=
  X_callS hm hd hlv (by omega) (by omega) hn hstk hwt hC (fun v h' hk => by
    obtain ⟨r, rfl, hk⟩ := hk
    exact X_room (by omega) (by omega) (kr r h' hk)) (fun E h' hk => XT_room (by omega) (by omega) (kt E h' hk))
theorem X_nR {M' : Mt} {idx n lv' mc ms rc' rs' : Nat} {as stk : List Value} {Kt : Nat → AH → Prop} (hm : MSN M.1.cls idx M' n) (hd : decode M.2.1 pc = .ok (.invokestatic idx, 3)) (hlv : lv' + 1 ≤ lv) (h1 : rc' + mc ≤ rc) (h2 : rs' + ms ≤ rs) (hn : as.length = n) (hstk : stk = as.reverse ++ st) (hwt : (st.map fun v => v.category).sum ≤ 8) (hC : Cn M' (cwd M') lv' mc ms as h (KR Kt) T0) (kr : ∀ r h', Kt r h' → X M lv K T rc' rs' (pc + 3) ls (.ref r :: st) h') : X M lv K T rc rs pc ls stk h :=
  X_callSN hm hd hlv (by omega) (by omega) hn hstk hwt hC (fun v h' hk => by
    obtain ⟨r, rfl, hk⟩ := hk
    exact X_room (by omega) (by omega) (kr r h' hk))
theorem X_vV {M' : Mt} {idx n lv' mc ms rc' rs' b : Nat} {C : String} {as stk : List Value} {Kt : AH → Prop} {T' : String → AH → Prop} (hm : MV M.1.cls idx M' n C) (hd : decode M.2.1 pc = .ok (.invokevirtual idx, 3)) (hlv : lv' + 1 ≤ lv) (h1 : rc' + mc ≤ rc) (h2 : rs' + ms ≤ rs) (hn : as.length = n) (hstk : stk = as.reverse ++ .ref b :: st) (hwt : (st.map fun v => v.category).sum ≤ 8) (hr : rcv h b C) (hC : Cn M' (cwd M') lv' mc ms (.ref b :: as) h (KV Kt) T') (kt : ∀ E h', T' E h' → XT M lv K T rc' rs' E pc ls h') (kr : ∀ h', Kt h' → X M lv K T rc' rs' (pc + 3) ls st h') : X M lv K T rc rs pc ls stk h :=
  X_callV hm hd hlv (by omega) (by omega) hn hstk hwt hr hC (fun v h' hk => by
    obtain ⟨rfl, hk⟩ := hk
    exact X_room (by omega) (by omega) (kr h' hk)) (fun E h' hk => XT_room (by omega) (by omega) (kt E h' hk))
theorem X_sV {M' : Mt} {idx n lv' mc ms rc' rs' : Nat} {as stk : List Value} {Kt : AH → Prop} {T' : String → AH → Prop} (hm : MS M.1.cls idx M' n) (hd : decode M.2.1 pc = .ok (.invokestatic idx, 3)) (hlv : lv' + 1 ≤ lv) (h1 : rc' + mc ≤ rc) (h2 : rs' + ms ≤ rs) (hn : as.length = n) (hstk : stk = as.reverse ++ st) (hwt : (st.map fun v => v.category).sum ≤ 8) (hC : Cn M' (cwd M') lv' mc ms as h (KV Kt) T') (kt : ∀ E h', T' E h' → XT M lv K T rc' rs' E pc ls h') (kr : ∀ h', Kt h' → X M lv K T rc' rs' (pc + 3) ls st h') : X M lv K T rc rs pc ls stk h :=
  X_callS hm hd hlv (by omega) (by omega) hn hstk hwt hC (fun v h' hk => by
    obtain ⟨rfl, hk⟩ := hk
    exact X_room (by omega) (by omega) (kr h' hk)) (fun E h' hk => XT_room (by omega) (by omega) (kt E h' hk))
theorem X_nV {M' : Mt} {idx n lv' mc ms rc' rs' : Nat} {as stk : List Value} {Kt : AH → Prop} (hm : MSN M.1.cls idx M' n) (hd : decode M.2.1 pc = .ok (.invokestatic idx, 3)) (hlv : lv' + 1 ≤ lv) (h1 : rc' + mc ≤ rc) (h2 : rs' + ms ≤ rs) (hn : as.length = n) (hstk : stk = as.reverse ++ st) (hwt : (st.map fun v => v.category).sum ≤ 8) (hC : Cn M' (cwd M') lv' mc ms as h (KV Kt) T0) (kr : ∀ h', Kt h' → X M lv K T rc' rs' (pc + 3) ls st h') : X M lv K T rc rs pc ls stk h :=
  X_callSN hm hd hlv (by omega) (by omega) hn hstk hwt hC (fun v h' hk => by
    obtain ⟨rfl, hk⟩ := hk
    exact X_room (by omega) (by omega) (kr h' hk))
theorem X_iV {M' : Mt} {idx n lv' mc ms rc' rs' b : Nat} {as stk : List Value} {Kt : AH → Prop} (hm : MI M.1.cls idx M' n) (hd : decode M.2.1 pc = .ok (.invokespecial idx, 3)) (hlv : lv' + 1 ≤ lv) (h1 : rc' + mc ≤ rc) (h2 : rs' + ms ≤ rs) (hn : as.length = n) (hstk : stk = as.reverse ++ .ref b :: st) (hwt : (st.map fun v => v.category).sum ≤ 8) (hne : b ≠ 0) (hC : Cn M' (cwd M') lv' mc ms (.ref b :: as) h (KV Kt) T0) (kr : ∀ h', Kt h' → X M lv K T rc' rs' (pc + 3) ls st h') : X M lv K T rc rs pc ls stk h :=
  X_callI hm hd hlv (by omega) (by omega) hn hstk hwt hne hC (fun v h' hk => by
    obtain ⟨rfl, hk⟩ := hk
    exact X_room (by omega) (by omega) (kr h' hk))
end WR
