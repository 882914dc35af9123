/-! CALLS: INHERITED, OF THE SUPERCLASS, OF STATIC METHODS WITH A TABLE -/
section C2
variable {M : Mt} {lv : Nat} {K : Option Value → AH → Prop} {T : String → AH → Prop} {rc rs pc : Nat} {ls : List (Nat × Value)} {st : List Value} {h : AH}
def MU (own : String) (idx : Nat) (M' : Mt) (n : Nat) (C : String) : Prop := MD M' n ∧ Cond.methodLink own idx ⟨C, M'.1.name, M'.1.desc⟩ ∈ gw ∧ Cond.sameMethod C M'.1.cls M'.1.name M'.1.desc ∈ gw ∧ Cond.selects C ⟨C, M'.1.name, M'.1.desc⟩ M'.1 ∈ gw ∧ Cond.instanceMethod M'.1 ∈ gw ∧ cwd M' ∈ gw
theorem X_uI {M' : Mt} {idx n lv' mc ms rc' rs' b : Nat} {C : String} {as stk : List Value} {Kt : Int32 → AH → Prop} (hm : MU M.1.cls idx M' n C) (hd : decode M.2.1 pc = .ok (.invokevirtual idx, 3)) (hlv : lv' + 1 ≤ lv) (h1 : rc' + mc ≤ rc) (h2 : rs' + ms ≤ rs) (hn : as.length = n) (hstk : stk = as.reverse ++ .ref b :: st) (hwt : (st.map fun v => v.category).sum ≤ 8)
    (hr : rcv h b C) (hC : Cn M' (cwd M') lv' mc ms (.ref b :: as) h (KI Kt) T0) (kr : ∀ r h', Kt r h' → X M lv K T rc' rs' (pc + 3) ls (.int r :: st) h') : X M lv K T rc rs pc ls stk h := by
  subst hstk
  intro p l e R s m args below meth cc D tc A n0 ad0 h0 Q ad H locs cells slots la C9 hR hE hst hls hla hc hs eR eT
  obtain ⟨hx, hb, hml, hret, hts, hown, hlk, htab, hns, hini, hfr, hlo⟩ := id C9
  obtain ⟨⟨d1, d2, d3, d4⟩, m2, m3, m4, m5, m6⟩ := hm
  obtain ⟨hne, hcell⟩ := rcv_cell hR hr
  have hst9 : ∀ v ∈ st, vok h v := fun v hv => hst v (List.mem_append_right _ (List.mem_cons_of_mem _ hv))
  have hav : ∀ v ∈ (.ref b :: as), vok h v := fun v hv => by
    rcases List.mem_cons.mp hv with rfl | hv
    · exact hst _ (List.mem_append_right _ List.mem_cons_self)
    · exact hst v (List.mem_append_left _ (List.mem_reverse.mpr hv))
  have e9 : ((as.reverse ++ .ref b :: st).map (cv ad)) = (as.map (cv ad)).reverse ++ .ref (ad b) :: st.map (cv ad) := by
    rw [List.map_append, List.map_cons, cv_ref hne, List.map_reverse]
  rw [e9]
  have ea : ((Value.ref b :: as).map (cv ad)) = .ref (ad b) :: as.map (cv ad) := by rw [List.map_cons, cv_ref hne]
  have hU : va_CU R s args M.1.cls C M'.1.cls idx ⟨C, M'.1.name, M'.1.desc⟩ M'.1 M'.2.1 M'.2.2.1 M'.2.2.2.1 (cwd M' :: gw) ({ frames := lv', cells := mc, slots := ms, locals := 40 * lv' } : Room) mc ms n := by
    refine ⟨⟨rfl, rfl, by show lv' + 1 ≤ _; omega, by show 8 + (M'.2.2.1 + 11) + 40 * lv' ≤ R.locals; omega, pay_gw m6 hts, List.mem_cons_self⟩, hts _ m6, hts _ d1, d2, fun sig h => ?_, hts _ m2, hts _ m3, va_Decl.of (hts _ m5) (hts _ m6), hts _ m4, hts _ m5⟩
    have h9 : parseMethodDescriptor M'.1.desc = some sig := h
    rw [h9] at d3
    exact (Option.some.inj d3).symm
  have hrun := va_runU (e := e) (below := below) (meth := meth) (locs := locs) (cells := cells) (slots := slots) (rest := st.map (cv ad)) (g := F0 m pc la ((as.map (cv ad)).reverse ++ .ref (ad b) :: st.map (cv ad))) ⟨hx, hb, hml, hown, hts⟩ (met_of_vx (hC l hns D tc ad H.size) qx_no) hU ⟨pcn_blind D tc ad h H.size _, hcell, fun U hU hW => ⟨by rw [ea], by rw [hU], hR.enter hU hW, hav⟩⟩ rfl ((List.length_map ..).trans hn) hla.1 rfl (wt_eq ad hwt) hd ⟨by omega, by omega⟩
  exact X_after (T' := fun _ _ => False) (by omega) (by omega) (fun v h' hk => by
    obtain ⟨r, rfl, hk⟩ := hk
    exact X_room (by omega) (by omega) (kr r h' hk)) (fun _ _ z => z.elim) C9 hR hE hst9 hls hla hc hs eR eT (fun T9 hT X9 => Or.inl (hrun T9 hT X9))
def MP (own : String) (idx : Nat) (M' : Mt) (n : Nat) : Prop := MD M' n ∧ Cond.methodLink own idx M'.1 ∈ gw ∧ Cond.sameMethod M'.1.cls M'.1.cls M'.1.name M'.1.desc ∈ gw ∧ Cond.superclass own M'.1.cls ∈ gw ∧ Cond.instanceMethod M'.1 ∈ gw ∧ cwd M' ∈ gw ∧ M'.1.name ≠ "<init>"
theorem X_callP {M' : Mt} {idx n lv' mc ms rc' rs' b : Nat} {as stk : List Value} {K' : Option Value → AH → Prop} (hm : MP M.1.cls idx M' n) (hd : decode M.2.1 pc = .ok (.invokespecial idx, 3)) (hlv : lv' + 1 ≤ lv) (h1 : rc' + mc ≤ rc) (h2 : rs' + ms ≤ rs) (hn : as.length = n) (hstk : stk = as.reverse ++ .ref b :: st) (hwt : (st.map fun v => v.category).sum ≤ 8)
    (hr : isO h b 8) (hC : Cn M' (cwd M') lv' mc ms (.ref b :: as) h K' T0) (kr : ∀ v h', K' v h' → X M lv K T rc' rs' (pc + 3) ls (v.toList ++ st) h') : X M lv K T rc rs pc ls stk h := by
  subst hstk
  intro p l e R s m args below meth cc D tc A n0 ad0 h0 Q ad H locs cells slots la C9 hR hE hst hls hla hc hs eR eT
  obtain ⟨hx, hb, hml, hret, hts, hown, hlk, htab, hns, hini, hfr, hlo⟩ := id C9
  obtain ⟨⟨d1, d2, d3, d4⟩, m2, m3, m4, m5, m6, m7⟩ := hm
  obtain ⟨hne, hcell⟩ := rcv_cell hR (rcvD (C := RJ4) (TT := TJ4) (N := 4) hr (by decide) rfl)
  have hst9 : ∀ v ∈ st, vok h v := fun v hv => hst v (List.mem_append_right _ (List.mem_cons_of_mem _ hv))
  have hav : ∀ v ∈ (.ref b :: as), vok h v := fun v hv => by
    rcases List.mem_cons.mp hv with rfl | hv
    · exact hst _ (List.mem_append_right _ List.mem_cons_self)
    · exact hst v (List.mem_append_left _ (List.mem_reverse.mpr hv))
  have e9 : ((as.reverse ++ .ref b :: st).map (cv ad)) = (as.map (cv ad)).reverse ++ .ref (ad b) :: st.map (cv ad) := by
    rw [List.map_append, List.map_cons, cv_ref hne, List.map_reverse]
  rw [e9]
  have ea : ((Value.ref b :: as).map (cv ad)) = .ref (ad b) :: as.map (cv ad) := by rw [List.map_cons, cv_ref hne]
  have hS : va_CS R s args M.1.cls idx M'.1 M'.2.1 M'.2.2.1 M'.2.2.2.1 (cwd M' :: gw) ({ frames := lv', cells := mc, slots := ms, locals := 40 * lv' } : Room) mc ms n := by
    refine ⟨⟨rfl, rfl, by show lv' + 1 ≤ _; omega, by show 8 + (M'.2.2.1 + 11) + 40 * lv' ≤ R.locals; omega, pay_gw m6 hts, List.mem_cons_self⟩, hts _ m2, hts _ m3, hts _ m4, hts _ m5, hts _ d1, hts _ m6, m7, fun sig h => ?_⟩
    rw [h] at d3
    exact (Option.some.inj d3).symm
  have hat : ClassAt s RJ4 (D.1 8) := (hR.1.1 8 (RJ4, TJ4, 4) rfl).2
  have hrun := va_runSU (e := e) (below := below) (meth := meth) (locs := locs) (cells := cells) (slots := slots) (rest := st.map (cv ad)) (g := F0 m pc la ((as.map (cv ad)).reverse ++ .ref (ad b) :: st.map (cv ad))) hat ⟨hx, hb, hml, hown, hts⟩ (met_of_vx (hC l hns D tc ad H.size) qx_no) hS ⟨pcn_blind D tc ad h H.size _, hcell, fun U hU hW => ⟨by rw [ea], by rw [hU], hR.enter hU hW, hav⟩⟩ rfl ((List.length_map ..).trans hn) hla.1 rfl (wt_eq ad hwt) hd ⟨by omega, by omega⟩
  exact X_after (T' := fun _ _ => False) (by omega) (by omega) (fun v h' hk => X_room (by omega) (by omega) (kr v h' hk)) (fun _ _ z => z.elim) C9 hR hE hst9 hls hla hc hs eR eT (fun T9 hT X9 => Or.inl (hrun T9 hT X9))
def MSH (own : String) (idx : Nat) (M' : Mt) (n : Nat) : Prop := MD M' n ∧ Cond.methodLink own idx M'.1 ∈ gw ∧ Cond.static M'.1 ∈ gw ∧ cwh M' ∈ gw
theorem X_sH {M' : Mt} {idx n lv' mc ms rc' rs' : Nat} {as stk : List Value} {Kt : Int32 → AH → Prop} (hm : MSH M.1.cls idx M' n) (hd : decode M.2.1 pc = .ok (.invokestatic idx, 3)) (hlv : lv' + 1 ≤ lv) (h1 : rc' + mc ≤ rc) (h2 : rs' + ms ≤ rs) (hn : as.length = n) (hstk : stk = as.reverse ++ st) (hwt : (st.map fun v => v.category).sum ≤ 8)
    (hC : Cn M' (cwh M') lv' mc ms as h (KI Kt) T0) (kr : ∀ r h', Kt r h' → X M lv K T rc' rs' (pc + 3) ls (.int r :: st) h') : X M lv K T rc rs pc ls stk h := by
  subst hstk
  intro p l e R s m args below meth cc D tc A n0 ad0 h0 Q ad H locs cells slots la C9 hR hE hst hls hla hc hs eR eT
  obtain ⟨hx, hb, hml, hret, hts, hown, hlk, htab, hns, hini, hfr, hlo⟩ := id C9
  obtain ⟨⟨d1, d2, d3, d4⟩, m2, m3, m5⟩ := hm
  have hst9 : ∀ v ∈ st, vok h v := fun v hv => hst v (List.mem_append_right _ hv)
  have hav : ∀ v ∈ as, vok h v := fun v hv => hst v (List.mem_append_left _ (List.mem_reverse.mpr hv))
  rw [List.map_append, List.map_reverse]
  have hS : vx_CSW R s args M.1.cls idx M'.1 M'.2.1 M'.2.2.1 M'.2.2.2.1 M'.2.2.2.2 (cwh M' :: gw) ({ frames := lv', cells := mc, slots := ms, locals := 40 * lv' } : Room) mc ms n := by
    refine ⟨⟨rfl, rfl, by show lv' + 1 ≤ _; omega, by show 8 + (M'.2.2.1 + 11) + 40 * lv' ≤ R.locals; omega, pay_gw m5 hts, List.mem_cons_self⟩, hts _ m5, hts _ d1, d2, fun sig h => ?_, hts _ m2, hts _ m3⟩
    rw [h] at d3
    exact (Option.some.inj d3).symm
  have hrun := vx_runSX (e := e) (below := below) (meth := meth) (locs := locs) (cells := cells) (slots := slots) (rest := st.map (cv ad)) (g := F0 m pc la ((as.map (cv ad)).reverse ++ st.map (cv ad))) ⟨hx, hb, hml, hown, hts⟩ (hC l hns D tc ad H.size) hS ⟨pcn_blind D tc ad h H.size _, fun U hU hW => ⟨rfl, by rw [hU], hR.enter hU hW, hav⟩⟩ rfl ((List.length_map ..).trans hn) hla.1 rfl (wt_eq ad hwt) hd ⟨by omega, by omega⟩
  exact X_after (T' := fun _ _ => False) (by omega) (by omega) (fun v h' hk => by
    obtain ⟨r, rfl, hk⟩ := hk
    exact X_room (by omega) (by omega) (kr r h' hk)) (fun _ _ z => z.elim) C9 hR hE hst9 hls hla hc hs eR eT hrun
end C2
theorem i32_of {x k : Int32} (h : x.toInt = k.toInt) : x = k := Int32.toInt_inj.mp h
/-- a table's default: out of the range, or a gap -/
theorem X_tab {M : Mt} {lv : Nat} {K : Option Value → AH → Prop} {T : String → AH → Prop} {rc rs pc : Nat} {ls : List (Nat × Value)} {st : List Value} {h : AH} {dflt lo hi : Int} {offs : Array Int} {len : Nat} {x : Int32} {tgt : Nat} (hd : decode M.2.1 pc = .ok (.tableswitch dflt lo hi offs, len)) (ht : (pc : Int) + dflt = (tgt : Int)) (hg : ¬ x.toInt < lo → ¬ hi < x.toInt → ∃ off, offs[(x.toInt - lo).toNat]? = some off ∧ (pc : Int) + off = (tgt : Int)) (k : X M lv K T rc rs tgt ls st h) : X M lv K T rc rs pc ls (.int x :: st) h := by
  by_cases h1 : x.toInt < lo
  · exact X_tableOut hd (Or.inl h1) ht k
  · by_cases h2 : hi < x.toInt
    · exact X_tableOut hd (Or.inr h2) ht k
    · obtain ⟨off, g1, g2⟩ := hg h1 h2
      exact X_tableIn hd h1 h2 g1 g2 k
