/-! STATIC CALLS OF METHODS WITH A TABLE that answer a double or a float -/
section SH2
variable {M : Mt} {lv : Nat} {K : Option Value → AH → Prop} {T : String → AH → Prop} {rc rs pc : Nat} {ls : List (Nat × Value)} {st : List Value} {h : AH}
theorem X_sHD {M' : Mt} {idx n lv' mc ms rc' rs' : Nat} {as stk : List Value} {Kt : UInt64 → AH → Prop} (hm : MSH M.1.cls idx M' n) (hd : decode M.2.1 pc = .ok (.invokestatic idx, 3)) (hlv : lv' + 1 ≤ lv) (h1 : rc' + mc ≤ rc) (h2 : rs' + ms ≤ rs) (hn : as.length = n) (hstk : stk = as.reverse ++ st) (hwt : (st.map fun v => v.category).sum ≤ 8)
    (hC : Cn M' (cwh M') lv' mc ms as h (KD Kt) T0) (kr : ∀ r h', Kt r h' → X M lv K T rc' rs' (pc + 3) ls (.double r :: st) h') : X M lv K T rc rs pc ls stk h := by
  subst hstk
  intro p l e R s m args below meth cc D tc A n0 ad0 h0 Q ad H locs cells slots la C9 hR hE hst hls hla hc hs eR eT
  obtain ⟨hx, hb, hml, hret, hts, hown, hlk, htab, hns, hini, hfr, hlo⟩ := id C9
  obtain ⟨⟨d1, d2, d3, d4⟩, m2, m3, m5⟩ := hm
  have hst9 : ∀ v ∈ st, vok h v := fun v hv => hst v (List.mem_append_right _ hv)
  have hav : ∀ v ∈ as, vok h v := fun v hv => hst v (List.mem_append_left _ (List.mem_reverse.mpr hv))
  rw [List.map_append, List.map_reverse]
  have hS : vx_CSW R s args M.1.cls idx M'.1 M'.2.1 M'.2.2.1 M'.2.2.2.1 M'.2.2.2.2 (cwh M' :: gw) ({ frames := lv', cells := mc, slots := ms, locals := 40 * lv' } : Room) mc ms n := by
    refine ⟨⟨rfl, rfl, by show lv' + 1 ≤ _; omega, by show 8 + (M'.2.2.1 + 11) + 40 * lv' ≤ R.locals; omega, pay_gw m5 hts, List.mem_cons_self⟩, hts _ m5, hts _ d1, d2, fun sig h => ?_, hts _ m2, hts _ m3⟩
    rw [h] at d3
    exact (Option.some.inj d3).symm
  have hrun := vx_runSX (e := e) (below := below) (meth := meth) (locs := locs) (cells := cells) (slots := slots) (rest := st.map (cv ad)) (g := F0 m pc la ((as.map (cv ad)).reverse ++ st.map (cv ad))) ⟨hx, hb, hml, hown, hts⟩ (hC l hns D tc ad H.size) hS ⟨pcn_blind D tc ad h H.size _, fun U hU hW => ⟨rfl, by rw [hU], hR.enter hU hW, hav⟩⟩ rfl ((List.length_map ..).trans hn) hla.1 rfl (wt_eq ad hwt) hd ⟨by omega, by omega⟩
  exact X_after (T' := fun _ _ => False) (by omega) (by omega) (fun v h' hk => by
    obtain ⟨r, rfl, hk⟩ := hk
    exact X_room (by omega) (by omega) (kr r h' hk)) (fun _ _ z => z.elim) C9 hR hE hst9 hls hla hc hs eR eT hrun
theorem X_sHF {M' : Mt} {idx n lv' mc ms rc' rs' : Nat} {as stk : List Value} {Kt : UInt32 → AH → Prop} (hm : MSH M.1.cls idx M' n) (hd : decode M.2.1 pc = .ok (.invokestatic idx, 3)) (hlv : lv' + 1 ≤ lv) (h1 : rc' + mc ≤ rc) (h2 : rs' + ms ≤ rs) (hn : as.length = n) (hstk : stk = as.reverse ++ st) (hwt : (st.map fun v => v.category).sum ≤ 8)
    (hC : Cn M' (cwh M') lv' mc ms as h (KF Kt) T0) (kr : ∀ r h', Kt r h' → X M lv K T rc' rs' (pc + 3) ls (.float r :: st) h') : X M lv K T rc rs pc ls stk h := by
  subst hstk
  intro p l e R s m args below meth cc D tc A n0 ad0 h0 Q ad H locs cells slots la C9 hR hE hst hls hla hc hs eR eT
  obtain ⟨hx, hb, hml, hret, hts, hown, hlk, htab, hns, hini, hfr, hlo⟩ := id C9
  obtain ⟨⟨d1, d2, d3, d4⟩, m2, m3, m5⟩ := hm
  have hst9 : ∀ v ∈ st, vok h v := fun v hv => hst v (List.mem_append_right _ hv)
  have hav : ∀ v ∈ as, vok h v := fun v hv => hst v (List.mem_append_left _ (List.mem_reverse.mpr hv))
  rw [List.map_append, List.map_reverse]
  have hS : vx_CSW R s args M.1.cls idx M'.1 M'.2.1 M'.2.2.1 M'.2.2.2.1 M'.2.2.2.2 (cwh M' :: gw) ({ frames := lv', cells := mc, slots := ms, locals := 40 * lv' } : Room) mc ms n := by
    refine ⟨⟨rfl, rfl, by show lv' + 1 ≤ _; omega, by show 8 + (M'.2.2.1 + 11) + 40 * lv' ≤ R.locals; omega, pay_gw m5 hts, List.mem_cons_self⟩, hts _ m5, hts _ d1, d2, fun sig h => ?_, hts _ m2, hts _ m3⟩
    rw [h] at d3
    exact (Option.some.inj d3).symm
  have hrun := vx_runSX (e := e) (below := below) (meth := meth) (locs := locs) (cells := cells) (slots := slots) (rest := st.map (cv ad)) (g := F0 m pc la ((as.map (cv ad)).reverse ++ st.map (cv ad))) ⟨hx, hb, hml, hown, hts⟩ (hC l hns D tc ad H.size) hS ⟨pcn_blind D tc ad h H.size _, fun U hU hW => ⟨rfl, by rw [hU], hR.enter hU hW, hav⟩⟩ rfl ((List.length_map ..).trans hn) hla.1 rfl (wt_eq ad hwt) hd ⟨by omega, by omega⟩
  exact X_after (T' := fun _ _ => False) (by omega) (by omega) (fun v h' hk => by
    obtain ⟨r, rfl, hk⟩ := hk
    exact X_room (by omega) (by omega) (kr r h' hk)) (fun _ _ z => z.elim) C9 hR hE hst9 hls hla hc hs eR eT hrun
end SH2
