/-! CALLS -/
theorem Rel.calling {D : va_G} {tc : Nat → ClassId} {A : Nat → Prop} {ad : Nat → Nat} {h : AH} {U : State} {H : Heap} {locs : List Loc} (hR : Rel D tc A ad h U H locs) (g : JFrame) (mk : MethodId) (a : Array Value) : Rel D tc A ad h (U.calling g mk a) H locs := by
  obtain ⟨r1, r2, r3, r4, r5, r6, r7⟩ := hR
  refine ⟨va_K.moved (u := U) (U := U.calling g mk a) (Vm.Alike.refl U.vm) r1, r2, r3, r4, ?_, r6, r7⟩
  exact r5.go (U := U.calling g mk a) (State.WarmedH.refl U) (fun _ _ _ => rfl) (fun _ h => h)
theorem pcn_blind (D : va_G) (tc : Nat → ClassId) (ad : Nat → Nat) (h : AH) (sz : Nat) (as : List Value) : FrameBlind (Pcn D tc ad h sz as) := fun a U g mk q => by
  obtain ⟨q0, q1, q2, q3⟩ := q
  exact ⟨q0, q1, q2.calling g mk a, q3⟩
theorem Rel.enter {D : va_G} {tc : Nat → ClassId} {A : Nat → Prop} {ad : Nat → Nat} {h : AH} {s U : State} {H : Heap} {locs : List Loc} (hR : Rel D tc A ad h s H locs) (hU : U.heap = H) (hW : s.WarmedH U.vm) : Rel D tc (Af ad h H.size) ad h U U.heap [] := by
  obtain ⟨r1, r2, r3, r4, r5, r6, r7⟩ := hR
  have hAf : ∀ q, Af ad h H.size q → A q := fun q hq => by
    rcases hq with hq | ⟨k, k1, k2, rfl⟩
    · exact r6 q (Nat.le_trans r4.1 hq)
    · exact r3.2 (k - nZ) _ (dyn_get k1 k2)
  refine ⟨va_K.moved hW.alike r1, by rw [hU]; exact r2, ⟨r3.1, fun k q hk => ?_⟩, va_S.rf, ?_, fun q hq => Or.inl (by rw [← hU]; exact hq), r7⟩
  · obtain ⟨h1, rfl⟩ := dyn_at hk
    exact Or.inr ⟨nZ + k, Nat.le_add_right _ _, h1, rfl⟩
  · exact r5.go hW (fun a h1 h2 => by rw [hU]; exact r4.2.1 a h1 h2) hAf
theorem Rel.af {D : va_G} {tc : Nat → ClassId} {A : Nat → Prop} {ad : Nat → Nat} {h : AH} {s : State} {H : Heap} {locs : List Loc} (hR : Rel D tc A ad h s H locs) : ∀ q, Af ad h H.size q → A q := fun q hq => by
  obtain ⟨r1, r2, r3, r4, r5, r6, r7⟩ := hR
  rcases hq with hq | ⟨k, k1, k2, rfl⟩
  · exact r6 q (Nat.le_trans r4.1 hq)
  · exact r3.2 (k - nZ) _ (dyn_get k1 k2)
theorem Rel.leave {D : va_G} {tc : Nat → ClassId} {A : Nat → Prop} {ad ad' : Nat → Nat} {h h' : AH} {s t : State} {H H1 : Heap} {locs locs1 : List Loc} (hR : Rel D tc A ad h s H locs) (hw : Wt D tc (Af ad h H.size) (mN h) ad h ad' h' t) (ht : H1 = t.heap) (hS : va_S A s.heap H1 locs1) : Rel D tc A ad' h' s H1 locs1 := by
  have haf := hR.af
  obtain ⟨r1, r2, r3, r4, r5, r6, r7⟩ := hR
  obtain ⟨w1, w2, w3, w4⟩ := hw
  exact ⟨r1, by rw [ht]; exact w1, w2.weaken (fun k q _ h => haf q.1 h), hS, r5.re r7 w4.2.1 w4.2.2, r6, w3⟩
theorem Ext.leave {n0 : Nat} {ad0 ad ad' : Nat → Nat} {h0 h h' : AH} (hE : Ext n0 ad0 h0 ad h) (hE2 : Ext (mN h) ad h ad' h') : Ext n0 ad0 h0 ad' h' := ⟨Nat.le_trans hE.1 hE2.1, fun k hk => (hE2.2.1 k (Nat.lt_of_lt_of_le hk hE.1)).trans (hE.2.1 k hk), hE.2.2.tr hE2.2.2⟩
theorem cvl_eq {ad ad' : Nat → Nat} {h : AH} {ls : List (Nat × Value)} (hd : ∀ k, k < mN h → ad' k = ad k) (hls : ∀ q ∈ ls, vok h q.2) : cvl ad' ls = cvl ad ls := List.map_congr_left (fun q hq => by rw [cv_eq hd (hls q hq)])
theorem cvs_eq {ad ad' : Nat → Nat} {h : AH} {st : List Value} (hd : ∀ k, k < mN h → ad' k = ad k) (hst : ∀ v ∈ st, vok h v) : st.map (cv ad') = st.map (cv ad) := List.map_congr_left (fun v hv => cv_eq hd (hst v hv))
section CA
variable {M : Mt} {lv : Nat} {K : Option Value → AH → Prop} {T : String → AH → Prop} {rc rs pc : Nat} {ls : List (Nat × Value)} {st : List Value} {h : AH}
theorem X_after {mc ms : Nat} {K' : Option Value → AH → Prop} {T' : String → AH → Prop} {as : Array Value} (hmc : mc ≤ rc) (hms : ms ≤ rs)
    (kr : ∀ v h', K' v h' → X M lv K T (rc - mc) (rs - ms) (pc + 3) ls (v.toList ++ st) h') (kt : ∀ E h', T' E h' → XT M lv K T (rc - mc) (rs - ms) E pc ls h')
    {p : Program} {l : Launch} {e : Env} {R : Room} {s : State} {m : MethodId} {args : Array Value} {below : List Frame} {meth : Method} {c : Code} {D : va_G} {tc : Nat → ClassId} {A : Nat → Prop} {n0 : Nat} {ad0 : Nat → Nat} {h0 : AH} {Q : State → Prop} {ad : Nat → Nat} {H : Heap} {locs : List Loc} {cells slots : Nat} {la : Array Slot} {stk : List Value}
    (C : Cx M lv p l R s m args meth c) (hR : Rel D tc A ad h s H locs) (hE : Ext n0 ad0 h0 ad h) (hst : ∀ v ∈ st, vok h v) (hls : ∀ q ∈ ls, vok h q.2) (hla : lv_has la M.2.2.1 (cvl ad ls)) (hc : cells + rc ≤ R.cells) (hs : slots + rs ≤ R.slots)
    (eR : EndR M K p l e R s m args below meth c D tc A n0 ad0 h0 Q) (eT : EndT T p l e R s m args below meth c D tc A n0 ad0 h0 Q)
    (hrun : vx_Run p l e R s m args below meth c H locs cells slots mc ms (F0 m pc la stk) (st.map (cv ad)) (Qr D tc ad h H.size K' as) (Qx D tc ad h H.size T') (Af ad h H.size)) : W p l e R s m args below meth c H locs cells slots Q (F0 m pc la stk) := by
  have haf := hR.af
  have hr4 := hR.2.2.2.1
  intro T9 hT X9
  rcases hrun T9 hT X9 with ⟨v, st₀, t, T', L, g0, X', hL, e1, e2, ⟨⟨v', h', ad', hv, hK', hok, hw⟩, hF⟩, stp⟩ | ⟨q, st₀, t, T', L, E, ce, g0, X', hL, e1, e2, ⟨⟨h', ad', hT', hw⟩, hF⟩, hce, hcv, hcl, stp⟩
  · obtain ⟨k1, k2, k3⟩ := vx_keep g0 e1 hr4 (fun q _ z => haf q z) haf hL hF
    cases hv
    have hR1 := hR.leave hw e1 k3
    have hE2 := hw.2.2.2
    have hk := kr v' h' hK' p l e R s m args below meth c D tc A n0 ad0 h0 Q ad' T'.heap (locs ++ L) (cells + mc) (slots + ms) la C hR1 (hE.leave hE2) (fun x hx => by
      rcases List.mem_append.mp hx with hx | hx
      · exact hok x hx
      · exact vok_n hE2.1 (hst x hx)) (fun q hq => vok_n hE2.1 (hls q hq)) (by rw [cvl_eq hE2.2.1 hls]; exact hla) (by omega) (by omega) eR eT
    rw [List.map_append, cvs_eq hE2.2.1 hst] at hk
    obtain ⟨t2, a1, b1⟩ := hk T' rfl X'
    refine ⟨t2, stp t2 ?_, b1⟩
    have e9 : (v'.map (cv ad')).toList = v'.toList.map (cv ad') := by cases v' <;> rfl
    rw [e9]
    exact a1
  · obtain ⟨k1, k2, k3⟩ := vx_keep g0 e1 hr4 (fun q _ z => haf q z) haf hL hF
    have hR1 := hR.leave hw e1 k3
    have hE2 := hw.2.2.2
    have hk := kt E h' hT' p l e R s m args below meth c D tc A n0 ad0 h0 Q ad' T'.heap (locs ++ L) (cells + mc) (slots + ms) la q ce (st.map (cv ad)) C hR1 (hE.leave hE2) (fun q hq => vok_n hE2.1 (hls q hq)) (by rw [cvl_eq hE2.2.1 hls]; exact hla) (by omega) (by omega) (by rw [e1]; exact hce) hcv hcl eR eT
    obtain ⟨t2, a1, b1⟩ := hk T' rfl X'
    exact ⟨t2, stp.trans a1, b1⟩
def MD (M' : Mt) (n : Nat) : Prop := Cond.initialized M'.1.cls ∈ gw ∧ (M'.1.cls ≠ "java/lang/invoke/MethodHandle" ∧ M'.1.cls ≠ "java/lang/invoke/VarHandle") ∧ (parseMethodDescriptor M'.1.desc).map (fun d => d.parameters.length) = some n ∧ M'.2.2.1 ≤ 21
abbrev cwd (M' : Mt) : Cond := .code M'.1 M'.2.1 M'.2.2.1 M'.2.2.2.1
abbrev cwh (M' : Mt) : Cond := .codeWith M'.1 M'.2.1 M'.2.2.1 M'.2.2.2.1 M'.2.2.2.2
theorem pay_gw {args : Array Value} {s : State} {cw : Cond} (hcw : cw ∈ gw) (hts : ∀ w ∈ gw, w.before args s = true) : ∀ w ∈ cw :: gw, ∀ (a' : Array Value) (U : State), s.WarmedH U.vm → w.before a' U = true := fun w hw a' U hW => by
  have hw : w ∈ gw := by
    rcases List.mem_cons.mp hw with rfl | hw
    · exact hcw
    · exact hw
  exact word_at hW (gw_good hw) (hts w hw)
theorem callB_gw {R : Room} {s : State} {args : Array Value} {own : String} {idx n lv' mc ms : Nat} {M' : Mt} (hts : ∀ w ∈ gw, w.before args s = true) (hcw : cwd M' ∈ gw) (hd : MD M' n) (hl : Cond.methodLink own idx M'.1 ∈ gw) (hfr : lv' + 1 ≤ R.frames) (hlo : 40 * (lv' + 1) ≤ R.locals) :
    CallB R s args own idx M'.1 M'.2.1 M'.2.2.1 M'.2.2.2.1 (cwd M' :: gw) ({ frames := lv', cells := mc, slots := ms, locals := 40 * lv' } : Room) mc ms n := by
  obtain ⟨d1, d2, d3, d4⟩ := hd
  refine ⟨rfl, rfl, hfr, by show 8 + (M'.2.2.1 + 11) + 40 * lv' ≤ R.locals; omega, pay_gw hcw hts, List.mem_cons_self, hts _ hcw, hts _ d1, d2, fun sig h => ?_, hts _ hl⟩
  rw [h] at d3
  exact (Option.some.inj d3).symm
/-- the class by which a receiver is known -/
def rcv (h : AH) (b : Nat) (C : String) : Prop := (∃ ci TT N, mS h b = (ci + 1, 0) ∧ ci < 9 ∧ CL[ci]? = some (C, TT, N)) ∨ (b < nZ ∧ ((mS h b = (20, 0) ∧ C = RJ0) ∨ (mS h b = (21, 0) ∧ C = RX1)))
theorem rcv_cell {D : va_G} {tc : Nat → ClassId} {A : Nat → Prop} {ad : Nat → Nat} {s : State} {H : Heap} {locs : List Loc} {b : Nat} {C : String} (hR : Rel D tc A ad h s H locs) (hr : rcv h b C) : b ≠ 0 ∧ ∃ cellB : Cell, H[ad b]? = some cellB ∧ cellB.vm.isStatics = false ∧ s.vm.findClass C = some cellB.cls := by
  obtain ⟨r1, r2, r3, r4, r5, r6, r7⟩ := hR
  rcases hr with ⟨ci, TT, N, ho, hc, hC⟩ | ⟨hz, hr⟩
  · obtain ⟨hz, ha⟩ := r7.dynz ho (by omega) (by omega)
    have he := dyn_get (tc := tc) (ad := ad) hz ha
    rw [ce_obj ho hc] at he
    exact ⟨nz_ne hz, va_recv r1 r2 hC he⟩
  · rcases hr with ⟨ho, rfl⟩ | ⟨ho, rfl⟩
    · obtain ⟨cellV, g1, g2, g3, -⟩ := ((r5.1 b hz).1 (by rw [ho]; exact Or.inl rfl)).1.kept r4.2.1
      rw [ho] at g3
      exact ⟨r7.ne0 ho (by decide), cellV, g1, g2, g3⟩
    · obtain ⟨cellV, g1, g2, g3, -⟩ := ((r5.1 b hz).1 (by rw [ho]; exact Or.inr rfl)).1.kept r4.2.1
      rw [ho] at g3
      exact ⟨r7.ne0 ho (by decide), cellV, g1, g2, g3⟩
def MV (own : String) (idx : Nat) (M' : Mt) (n : Nat) (C : String) : Prop := MD M' n ∧ Cond.methodLink own idx M'.1 ∈ gw ∧ Cond.instanceMethod M'.1 ∈ gw ∧ Cond.selects C M'.1 M'.1 ∈ gw ∧ cwd M' ∈ gw
theorem X_callV {M' : Mt} {idx n lv' mc ms b : Nat} {C : String} {as stk : List Value} {K' : Option Value → AH → Prop} {T' : String → AH → Prop} (hm : MV M.1.cls idx M' n C) (hd : decode M.2.1 pc = .ok (.invokevirtual idx, 3)) (hlv : lv' + 1 ≤ lv) (hmc : mc ≤ rc) (hms : ms ≤ rs) (hn : as.length = n) (hstk : stk = as.reverse ++ .ref b :: st) (hwt : (st.map fun v => v.category).sum ≤ 8)
    (hr : rcv h b C) (hC : Cn M' (cwd M') lv' mc ms (.ref b :: as) h K' T') (kr : ∀ v h', K' v h' → X M lv K T (rc - mc) (rs - ms) (pc + 3) ls (v.toList ++ st) h') (kt : ∀ E h', T' E h' → XT M lv K T (rc - mc) (rs - ms) E pc ls h') : X M lv K T rc rs pc ls stk h := by
  subst hstk
  intro p l e R s m args below meth cc D tc A n0 ad0 h0 Q ad H locs cells slots la C9 hR hE hst hls hla hc hs eR eT
  obtain ⟨hx, hb, hml, hret, hts, hown, hlk, htab, hns, hini, hfr, hlo⟩ := id C9
  obtain ⟨m1, m2, m3, m4, m5⟩ := hm
  obtain ⟨hne, hcell⟩ := rcv_cell hR hr
  have hB := callB_gw (n := n) (mc := mc) (ms := ms) hts m5 m1 m2 (Nat.le_trans hlv hfr) (by omega)
  have hst9 : ∀ v ∈ st, vok h v := fun v hv => hst v (List.mem_append_right _ (List.mem_cons_of_mem _ hv))
  have hav : ∀ v ∈ (.ref b :: as), vok h v := fun v hv => by
    rcases List.mem_cons.mp hv with rfl | hv
    · exact hst _ (List.mem_append_right _ List.mem_cons_self)
    · exact hst v (List.mem_append_left _ (List.mem_reverse.mpr hv))
  have e9 : ((as.reverse ++ .ref b :: st).map (cv ad)) = (as.map (cv ad)).reverse ++ .ref (ad b) :: st.map (cv ad) := by
    rw [List.map_append, List.map_cons, cv_ref hne, List.map_reverse]
  rw [e9]
  have ea : ((Value.ref b :: as).map (cv ad)) = .ref (ad b) :: as.map (cv ad) := by rw [List.map_cons, cv_ref hne]
  have hrun := vx_runV (e := e) (below := below) (meth := meth) (locs := locs) (cells := cells) (slots := slots) (rest := st.map (cv ad)) (g := F0 m pc la ((as.map (cv ad)).reverse ++ .ref (ad b) :: st.map (cv ad))) ⟨hx, hb, hml, hown, hts⟩ (hC l hns D tc ad H.size) ⟨hB, hts _ m3, hts _ m4⟩ ⟨pcn_blind D tc ad h H.size _, hcell, fun U hU hW => ⟨by rw [ea], by rw [hU], by have := hR.enter hU hW; exact this, hav⟩⟩ rfl ((List.length_map ..).trans hn) hla.1 rfl (by
    show 2 * 0 + _ ≤ 8
    rw [List.map_map]
    have : (st.map ((fun v => v.category) ∘ cv ad)) = st.map (fun v => v.category) := List.map_congr_left (fun v _ => cv_cat ad v)
    rw [this]
    omega) hd ⟨by omega, by omega⟩
  exact X_after hmc hms kr kt C9 hR hE hst9 hls hla hc hs eR eT hrun
def MS (own : String) (idx : Nat) (M' : Mt) (n : Nat) : Prop := MD M' n ∧ Cond.methodLink own idx M'.1 ∈ gw ∧ Cond.static M'.1 ∈ gw ∧ cwd M' ∈ gw
theorem wt_eq (ad : Nat → Nat) {st : List Value} (hwt : (st.map fun v => v.category).sum ≤ 8) : 2 * 0 + ((st.map (cv ad)).map fun v => v.category).sum ≤ 8 := by
  rw [List.map_map]
  have : (st.map ((fun v => v.category) ∘ cv ad)) = st.map (fun v => v.category) := List.map_congr_left (fun v _ => cv_cat ad v)
  rw [this]
  omega
theorem X_callS {M' : Mt} {idx n lv' mc ms : Nat} {as stk : List Value} {K' : Option Value → AH → Prop} {T' : String → AH → Prop} (hm : MS M.1.cls idx M' n) (hd : decode M.2.1 pc = .ok (.invokestatic idx, 3)) (hlv : lv' + 1 ≤ lv) (hmc : mc ≤ rc) (hms : ms ≤ rs) (hn : as.length = n) (hstk : stk = as.reverse ++ st) (hwt : (st.map fun v => v.category).sum ≤ 8)
    (hC : Cn M' (cwd M') lv' mc ms as h K' T') (kr : ∀ v h', K' v h' → X M lv K T (rc - mc) (rs - ms) (pc + 3) ls (v.toList ++ st) h') (kt : ∀ E h', T' E h' → XT M lv K T (rc - mc) (rs - ms) E pc ls h') : X M lv K T rc rs pc ls stk h := by
  subst hstk
  intro p l e R s m args below meth cc D tc A n0 ad0 h0 Q ad H locs cells slots la C9 hR hE hst hls hla hc hs eR eT
  obtain ⟨hx, hb, hml, hret, hts, hown, hlk, htab, hns, hini, hfr, hlo⟩ := id C9
  obtain ⟨m1, m2, m3, m5⟩ := hm
  have hB := callB_gw (n := n) (mc := mc) (ms := ms) hts m5 m1 m2 (Nat.le_trans hlv hfr) (by omega)
  have hst9 : ∀ v ∈ st, vok h v := fun v hv => hst v (List.mem_append_right _ hv)
  have hav : ∀ v ∈ as, vok h v := fun v hv => hst v (List.mem_append_left _ (List.mem_reverse.mpr hv))
  rw [List.map_append, List.map_reverse]
  have hrun := vx_runS (e := e) (below := below) (meth := meth) (locs := locs) (cells := cells) (slots := slots) (rest := st.map (cv ad)) (g := F0 m pc la ((as.map (cv ad)).reverse ++ st.map (cv ad))) ⟨hx, hb, hml, hown, hts⟩ (hC l hns D tc ad H.size) ⟨hB, hts _ m3⟩ ⟨pcn_blind D tc ad h H.size _, fun U hU hW => ⟨rfl, by rw [hU], hR.enter hU hW, hav⟩⟩ rfl ((List.length_map ..).trans hn) hla.1 rfl (wt_eq ad hwt) hd ⟨by omega, by omega⟩
  exact X_after hmc hms kr kt C9 hR hE hst9 hls hla hc hs eR eT hrun
theorem met_of_vx {l : Launch} {y : MethodName} {ws : List Cond} {rm : Room} {Pc : Array Value → State → Prop} {Qc : Array Value → State → Outcome → State → Prop} {XC : String → State → State → Prop} {mc ms : Nat} {free : Addr → Prop} (hM : vx_Met l y ws rm Pc Qc XC mc ms free) (hX : ∀ E st t, ¬ XC E st t) : Met l y ws rm Pc Qc mc ms free := by
  intro p e h1 h2 h3 s m args below h4 h5 h6 h7
  obtain ⟨n, o, g1, g2, g3, g4⟩ := hM p e h1 h2 h3 s m args below h4 h5 h6 h7
  refine ⟨n, o, g1, g2, g3, ?_⟩
  rcases g4 with g4 | ⟨q, -, E, ce, L, g5, -⟩
  · exact g4
  · exact (hX _ _ _ g5).elim
theorem qx_no {D : va_G} {tc : Nat → ClassId} {ad : Nat → Nat} {sz : Nat} : ∀ E st t, ¬ Qx D tc ad h sz (fun _ _ => False) E st t := fun E st t ⟨⟨_, _, z, _⟩, _⟩ => z
theorem cn_gw {R : Room} {s : State} {args : Array Value} {own host : String} {idx n lv' mc ms : Nat} {M' : Mt} (hts : ∀ w ∈ gw, w.before args s = true) (hcw : cwd M' ∈ gw) (hd : MD M' n) (hl : va_Nw (.methodLinkNest own idx M'.1 host) s) (hfr : lv' + 1 ≤ R.frames) (hlo : 40 * (lv' + 1) ≤ R.locals) :
    va_CN R s args own idx M'.1 host M'.2.1 M'.2.2.1 M'.2.2.2.1 (cwd M' :: gw) ({ frames := lv', cells := mc, slots := ms, locals := 40 * lv' } : Room) mc ms n := by
  obtain ⟨d1, d2, d3, d4⟩ := hd
  refine ⟨⟨rfl, rfl, hfr, by show 8 + (M'.2.2.1 + 11) + 40 * lv' ≤ R.locals; omega, pay_gw hcw hts, List.mem_cons_self⟩, hts _ hcw, hts _ d1, d2, fun sig h => ?_, va_Nw.use rfl hl⟩
  rw [h] at d3
  exact (Option.some.inj d3).symm
def MSN (own : String) (idx : Nat) (M' : Mt) (n : Nat) : Prop := MD M' n ∧ (∃ host, (own, idx, M'.1, host) ∈ nml) ∧ Cond.static M'.1 ∈ gw ∧ cwd M' ∈ gw
theorem X_callSN {M' : Mt} {idx n lv' mc ms : Nat} {as stk : List Value} {K' : Option Value → AH → Prop} (hm : MSN M.1.cls idx M' n) (hd : decode M.2.1 pc = .ok (.invokestatic idx, 3)) (hlv : lv' + 1 ≤ lv) (hmc : mc ≤ rc) (hms : ms ≤ rs) (hn : as.length = n) (hstk : stk = as.reverse ++ st) (hwt : (st.map fun v => v.category).sum ≤ 8)
    (hC : Cn M' (cwd M') lv' mc ms as h K' (fun _ _ => False)) (kr : ∀ v h', K' v h' → X M lv K T (rc - mc) (rs - ms) (pc + 3) ls (v.toList ++ st) h') : X M lv K T rc rs pc ls stk h := by
  subst hstk
  intro p l e R s m args below meth cc D tc A n0 ad0 h0 Q ad H locs cells slots la C9 hR hE hst hls hla hc hs eR eT
  obtain ⟨hx, hb, hml, hret, hts, hown, hlk, htab, hns, hini, hfr, hlo⟩ := id C9
  obtain ⟨m1, ⟨host, m2⟩, m3, m5⟩ := hm
  have hB := cn_gw (n := n) (mc := mc) (ms := ms) hts m5 m1 (hR.2.2.2.2.1.2.2.2.2.2.2.2.1 _ m2) (Nat.le_trans hlv hfr) (by omega)
  have hst9 : ∀ v ∈ st, vok h v := fun v hv => hst v (List.mem_append_right _ hv)
  have hav : ∀ v ∈ as, vok h v := fun v hv => hst v (List.mem_append_left _ (List.mem_reverse.mpr hv))
  rw [List.map_append, List.map_reverse]
  have hrun := va_runSN (e := e) (below := below) (meth := meth) (locs := locs) (cells := cells) (slots := slots) (rest := st.map (cv ad)) (g := F0 m pc la ((as.map (cv ad)).reverse ++ st.map (cv ad))) ⟨hx, hb, hml, hown, hts⟩ (met_of_vx (hC l hns D tc ad H.size) qx_no) ⟨hB, hts _ m3, trivial⟩ ⟨pcn_blind D tc ad h H.size _, fun U hU hW => ⟨rfl, by rw [hU], hR.enter hU hW, hav⟩⟩ rfl ((List.length_map ..).trans hn) hla.1 rfl (wt_eq ad hwt) hd ⟨by omega, by omega⟩
  exact X_after (T' := fun _ _ => False) hmc hms kr (fun _ _ z => z.elim) C9 hR hE hst9 hls hla hc hs eR eT (fun T9 hT X9 => Or.inl (hrun T9 hT X9))
def MI (own : String) (idx : Nat) (M' : Mt) (n : Nat) : Prop := MD M' n ∧ M'.1.name = "<init>" ∧ Cond.instanceMethod M'.1 ∈ gw ∧ cwd M' ∈ gw ∧ (Cond.methodLink own idx M'.1 ∈ gw ∨ ∃ host, (own, idx, M'.1, host) ∈ nml) ∧ M'.2.2.2.1 = none
theorem X_callI {M' : Mt} {idx n lv' mc ms b : Nat} {as stk : List Value} {K' : Option Value → AH → Prop} (hm : MI M.1.cls idx M' n) (hd : decode M.2.1 pc = .ok (.invokespecial idx, 3)) (hlv : lv' + 1 ≤ lv) (hmc : mc ≤ rc) (hms : ms ≤ rs) (hn : as.length = n) (hstk : stk = as.reverse ++ .ref b :: st) (hwt : (st.map fun v => v.category).sum ≤ 8)
    (hne : b ≠ 0) (hC : Cn M' (cwd M') lv' mc ms (.ref b :: as) h K' (fun _ _ => False)) (kr : ∀ v h', K' v h' → X M lv K T (rc - mc) (rs - ms) (pc + 3) ls (v.toList ++ st) h') : X M lv K T rc rs pc ls stk h := by
  subst hstk
  intro p l e R s m args below meth cc D tc A n0 ad0 h0 Q ad H locs cells slots la C9 hR hE hst hls hla hc hs eR eT
  obtain ⟨hx, hb, hml, hret, hts, hown, hlk, htab, hns, hini, hfr, hlo⟩ := id C9
  obtain ⟨m1, m2, m3, m5, m6, m7⟩ := hm
  have hst9 : ∀ v ∈ st, vok h v := fun v hv => hst v (List.mem_append_right _ (List.mem_cons_of_mem _ hv))
  have hav : ∀ v ∈ (.ref b :: as), vok h v := fun v hv => by
    rcases List.mem_cons.mp hv with rfl | hv
    · exact hst _ (List.mem_append_right _ List.mem_cons_self)
    · exact hst v (List.mem_append_left _ (List.mem_reverse.mpr hv))
  have e9 : ((as.reverse ++ .ref b :: st).map (cv ad)) = (as.map (cv ad)).reverse ++ .ref (ad b) :: st.map (cv ad) := by
    rw [List.map_append, List.map_cons, cv_ref hne, List.map_reverse]
  rw [e9]
  have ea : ((Value.ref b :: as).map (cv ad)) = .ref (ad b) :: as.map (cv ad) := by rw [List.map_cons, cv_ref hne]
  have hp : PreS s H (Pcn D tc ad h H.size (.ref b :: as)) (.ref (ad b) :: as.map (cv ad)) := ⟨pcn_blind D tc ad h H.size _, fun U hU hW => ⟨by rw [ea], by rw [hU], hR.enter hU hW, hav⟩⟩
  rcases m6 with m6 | ⟨host, m6⟩
  · have hB := callB_gw (n := n) (mc := mc) (ms := ms) hts m5 m1 m6 (Nat.le_trans hlv hfr) (by omega)
    have hM := met_of_vx (hC l hns D tc ad H.size) qx_no
    rw [m7] at hB
    have hrun := va_runI (e := e) (below := below) (meth := meth) (locs := locs) (cells := cells) (slots := slots) (rest := st.map (cv ad)) (g := F0 m pc la ((as.map (cv ad)).reverse ++ .ref (ad b) :: st.map (cv ad))) ⟨hx, hb, hml, hown, hts⟩ hM ⟨hB, m2, hts _ m3⟩ hp rfl ((List.length_map ..).trans hn) hla.1 rfl (wt_eq ad hwt) hd ⟨by omega, by omega⟩
    exact X_after (T' := fun _ _ => False) hmc hms kr (fun _ _ z => z.elim) C9 hR hE hst9 hls hla hc hs eR eT (fun T9 hT X9 => Or.inl (hrun T9 hT X9))
  · have hB := cn_gw (n := n) (mc := mc) (ms := ms) hts m5 m1 (hR.2.2.2.2.1.2.2.2.2.2.2.2.1 _ m6) (Nat.le_trans hlv hfr) (by omega)
    have hM := met_of_vx (hC l hns D tc ad H.size) qx_no
    rw [m7] at hB
    have hrun := va_runIN (e := e) (below := below) (meth := meth) (locs := locs) (cells := cells) (slots := slots) (rest := st.map (cv ad)) (g := F0 m pc la ((as.map (cv ad)).reverse ++ .ref (ad b) :: st.map (cv ad))) ⟨hx, hb, hml, hown, hts⟩ hM ⟨hB, m2, hts _ m3⟩ hp rfl ((List.length_map ..).trans hn) hla.1 rfl (wt_eq ad hwt) hd ⟨by omega, by omega⟩
    exact X_after (T' := fun _ _ => False) hmc hms kr (fun _ _ z => z.elim) C9 hR hE hst9 hls hla hc hs eR eT (fun T9 hT X9 => Or.inl (hrun T9 hT X9))
end CA
