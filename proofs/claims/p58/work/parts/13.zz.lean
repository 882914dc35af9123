/-! ROWS THAT THIS LAW WANTS BESIDE: strings made or there before, longs, constants, an overriding method -/
section ZZ
variable {M : Mt} {lv : Nat} {K : Option Value → AH → Prop} {T : String → AH → Prop} {rc rs pc : Nat} {ls : List (Nat × Value)} {st : List Value} {h : AH}
/-- a String, one of before or one that was made -/
def isSt (h : AH) (a : Nat) : Prop := (mS h a = (20, 0) ∧ a < nZ) ∨ isO h a 7
theorem rcvSt {a : Nat} (s : isSt h a) : rcv h a RJ0 := s.elim (fun z => Or.inr ⟨z.2, Or.inl ⟨z.1, rfl⟩⟩) (fun z => rcvD z (by decide) rfl)
theorem X_getUR {idx a : Nat} (hf : FL M.1.cls idx 7 0 1) (hd : decode M.2.1 pc = .ok (.getfield idx, 3)) (hl : Cond.fieldLink M.1.cls idx "java/lang/String" "value" "[B" ∈ gw ∨ ∃ host, (M.1.cls, idx, "java/lang/String", "value", "[B", host) ∈ nfl) (hs : isSt h a) (kk : X M lv K T rc rs (pc + 3) ls (.ref (mR h a 0) :: st) h) : X M lv K T rc rs pc ls (.ref a :: st) h := by
  rcases hs with ⟨h1, h2⟩ | h1
  · exact X_getS (j := 0) (kd := 20) (c := 1) hd (by decide) rfl rfl hl h1 h2 kk
  · exact X_getR hf hd h1 kk
theorem X_getUI {idx a : Nat} (hf : FL M.1.cls idx 7 1 0) (hd : decode M.2.1 pc = .ok (.getfield idx, 3)) (hl : Cond.fieldLink M.1.cls idx "java/lang/String" "coder" "B" ∈ gw ∨ ∃ host, (M.1.cls, idx, "java/lang/String", "coder", "B", host) ∈ nfl) (hs : isSt h a) (kk : X M lv K T rc rs (pc + 3) ls (.int (mI h a 1) :: st) h) : X M lv K T rc rs pc ls (.ref a :: st) h := by
  rcases hs with ⟨h1, h2⟩ | h1
  · exact X_getS (j := 1) (kd := 20) (c := 0) hd (by decide) rfl rfl hl h1 h2 kk
  · exact X_getI hf hd h1 kk
theorem X_lmul {x y : Int64} (hd : decode M.2.1 pc = .ok (.lmul, 1)) (k : X M lv K T rc rs (pc + 1) ls (.long (x * y) :: st) h) : X M lv K T rc rs pc ls (.long y :: .long x :: st) h := by
  intro p l e R s m args below meth c D tc A n0 ad0 h0 Q ad H locs cells slots la C hR hE hst hls hla hc hs eR eT
  obtain ⟨hx, hb, hml, hret, hts, hown, hlk, htab, hns, hini, hfr, hlo⟩ := id C
  exact lv_lmul hx hb hd (k p l e R s m args below meth c D tc A n0 ad0 h0 Q ad H locs cells slots la C hR hE (List.forall_mem_cons.mpr ⟨trivial, (fun v hv => hst v (List.mem_cons_of_mem _ (List.mem_cons_of_mem _ hv)))⟩) hls hla hc hs eR eT)
theorem X_ldc2 {n : Nat} {v : Int64} (hd : decode M.2.1 pc = .ok (.ldc2_w n, 3)) (hw : Cond.constantLong M.1.cls n v ∈ gw) (k : X M lv K T rc rs (pc + 3) ls (.long v :: st) h) : X M lv K T rc rs pc ls (st) h := by
  intro p l e R s m args below meth c D tc A n0 ad0 h0 Q ad H locs cells slots la C hR hE hst hls hla hc hs eR eT
  obtain ⟨hx, hb, hml, hret, hts, hown, hlk, htab, hns, hini, hfr, hlo⟩ := id C
  exact lv_ldc2 hx hb hown (hts _ hw) hd (k p l e R s m args below meth c D tc A n0 ad0 h0 Q ad H locs cells slots la C hR hE (List.forall_mem_cons.mpr ⟨trivial, (fun v hv => hst v hv)⟩) hls hla hc hs eR eT)
theorem X_ldc2d {n : Nat} {v : UInt64} (hd : decode M.2.1 pc = .ok (.ldc2_w n, 3)) (hw : Cond.constantDouble M.1.cls n v ∈ gw) (k : X M lv K T rc rs (pc + 3) ls (.double v :: st) h) : X M lv K T rc rs pc ls (st) h := by
  intro p l e R s m args below meth c D tc A n0 ad0 h0 Q ad H locs cells slots la C hR hE hst hls hla hc hs eR eT
  obtain ⟨hx, hb, hml, hret, hts, hown, hlk, htab, hns, hini, hfr, hlo⟩ := id C
  exact lv_ldc2d hx hb hown (hts _ hw) hd (k p l e R s m args below meth c D tc A n0 ad0 h0 Q ad H locs cells slots la C hR hE (List.forall_mem_cons.mpr ⟨trivial, (fun v hv => hst v hv)⟩) hls hla hc hs eR eT)
theorem X_ldcf {n : Nat} {v : UInt32} (hd : decode M.2.1 pc = .ok (.ldc n, 2)) (hw : Cond.constantFloat M.1.cls n v ∈ gw) (k : X M lv K T rc rs (pc + 2) ls (.float v :: st) h) : X M lv K T rc rs pc ls (st) h := by
  intro p l e R s m args below meth c D tc A n0 ad0 h0 Q ad H locs cells slots la C hR hE hst hls hla hc hs eR eT
  obtain ⟨hx, hb, hml, hret, hts, hown, hlk, htab, hns, hini, hfr, hlo⟩ := id C
  exact lv_ldcf hx hb hown (hts _ hw) hd (k p l e R s m args below meth c D tc A n0 ad0 h0 Q ad H locs cells slots la C hR hE (List.forall_mem_cons.mpr ⟨trivial, (fun v hv => hst v hv)⟩) hls hla hc hs eR eT)
theorem X_copyU {idx a0 a1 n0 n1 : Nat} {sp dp n : Int32} (hd : decode M.2.1 pc = .ok (.invokestatic idx, 3)) (hl : Cond.methodLink M.1.cls idx arraycopyName ∈ gw) (hn9 : Cond.native arraycopyName ∈ gw) (hst9 : Cond.static arraycopyName ∈ gw) (hini9 : Cond.initialized "java/lang/System" ∈ gw) (hlv : 1 ≤ lv) (hwt : (st.map fun v => v.category).sum ≤ 8)
    (ho0 : mS h a0 = (103, n0)) (ho1 : mS h a1 = (103, n1)) (hz1 : nZ ≤ a1) (h1 : ¬ sp < 0) (h2 : ¬ dp < 0) (h3 : ¬ n < 0) (h4 : sp.toNatClampNeg + n.toNatClampNeg ≤ n0) (h5 : dp.toNatClampNeg + n.toNatClampNeg ≤ n1) (hfit : ∀ i, i < n.toNatClampNeg → fits .byte (.int (mI h a0 (sp.toNatClampNeg + i))) = true)
    (k : X M lv K T rc rs (pc + 3) ls st (uA h a1 (va_cpy (mI h a0) (mI h a1) sp.toNatClampNeg dp.toNatClampNeg n.toNatClampNeg))) : X M lv K T rc rs pc ls (.int n :: .int dp :: .ref a1 :: .int sp :: .ref a0 :: st) h := by
  by_cases hz : nZ ≤ a0
  · exact X_copy (t := 3) hd hl hn9 hst9 hini9 hlv hwt (Or.inr rfl) ho0 ho1 hz hz1 h1 h2 h3 h4 h5 hfit k
  intro p l e R s m args below meth c D tc A n9 ad0 h0 Q ad H locs cells slots la C hR hE hst hls hla hc hs eR eT
  obtain ⟨hx, hb, hml, hret, hts, hown, hlk, htab, hns, hini, hfr, hlo⟩ := id C
  obtain ⟨r1, r2, r3, r4, r5, r6, r7⟩ := id hR
  have hne := r7.ne0 ho0 (by decide)
  have hlt1 := r7.lt ho1 (by omega)
  have hw9 := wt_eq ad hwt
  rw [List.map_cons, List.map_cons, List.map_cons, List.map_cons, List.map_cons, cv_ref hne, cv_ref (nz_ne hz1)]
  have hX := (r5.1 a0 (Nat.lt_of_not_le hz)).2 (by rw [ho0]; exact (show (100 : Nat) ≤ 103 by decide))
  rw [ho0] at hX
  have hX : va_T .byte (ad a0) n0 (fun j => .int (mI h a0 j)) A s s.heap := hX
  have he1 := dyn_get (tc := tc) (ad := ad) hz1 hlt1
  rw [ce_arr (t := 3) ho1] at he1
  have ea : ∀ a n, ar_ ad h a 3 n = (n, .inl (mI h a)) := fun a n => rfl
  rw [ea] at he1
  have ht9 : (tys tc)[3]? = some (tc 3, ty_ 3) := rfl
  refine vk_copyt hx hb (hml.trans hla.1.symm) hown (hts _ hl) (hts _ hn9) (hts _ hst9) (hts _ hini9) r1 r2 r3 r4 hX (a1 - nZ) 3 he1 ht9 h1 h2 h3 h4 h5 hfit (by omega) (by
    have : nativeFrameWords "java/lang/System" "arraycopy" 5 ≤ 16 := by decide +kernel
    omega) hd (fun H1 locs1 hP hD hS1 => ?_)
  have hR1 : Rel D tc A ad (uA h a1 (va_cpy (mI h a0) (mI h a1) sp.toNatClampNeg dp.toNatClampNeg n.toNatClampNeg)) s H1 locs1 := hR.put hP hD hS1 (by
    rw [ce_arr (t := 3) (h := uA h a1 _) (a := a1) (n := n1) ho1]
    unfold ar_
    have e9 : ∀ f, mI (uA h a1 f) a1 = f := fun f => if_pos rfl
    rw [e9]
    rfl) rfl hz1 hlt1 (fun b hb => ce_uA hb) r7 (sameS.uA hz1 _)
  exact k p l e R s m args below meth c D tc A n9 ad0 h0 Q ad H1 locs1 cells slots la C hR1 (hE.put rfl (sameS.uA hz1 _)) (fun v hv => hst v (by simp only [List.mem_cons]; exact Or.inr (Or.inr (Or.inr (Or.inr (Or.inr hv)))))) hls hla hc hs eR eT
/-- the reference names M0, the receiver's class has M' of its own -/
def MO (own : String) (idx : Nat) (M0 M' : Mt) (n : Nat) (C : String) : Prop := MD M' n ∧ MD M0 n ∧ Cond.methodLink own idx M0.1 ∈ gw ∧ Cond.sameMethod M0.1.cls M0.1.cls M0.1.name M0.1.desc ∈ gw ∧ Cond.instanceMethod M0.1 ∈ gw ∧ cwd M0 ∈ gw ∧ Cond.selects C M0.1 M'.1 ∈ gw ∧ Cond.instanceMethod M'.1 ∈ gw ∧ cwd M' ∈ gw
theorem X_oI {M0 M' : Mt} {idx n lv' mc ms rc' rs' b : Nat} {C : String} {as stk : List Value} {Kt : Int32 → AH → Prop} (hm : MO M.1.cls idx M0 M' n C) (hd : decode M.2.1 pc = .ok (.invokevirtual idx, 3)) (hlv : lv' + 1 ≤ lv) (h1 : rc' + mc ≤ rc) (h2 : rs' + ms ≤ rs) (hn : as.length = n) (hstk : stk = as.reverse ++ .ref b :: st) (hwt : (st.map fun v => v.category).sum ≤ 8)
    (hr : rcv h b C) (hC : Cn M' (cwd M') lv' mc ms (.ref b :: as) h (KI Kt) T0) (kr : ∀ r h', Kt r h' → X M lv K T rc' rs' (pc + 3) ls (.int r :: st) h') : X M lv K T rc rs pc ls stk h := by
  subst hstk
  intro p l e R s m args below meth cc D tc A n0 ad0 h0 Q ad H locs cells slots la C9 hR hE hst hls hla hc hs eR eT
  obtain ⟨hx, hb, hml, hret, hts, hown, hlk, htab, hns, hini, hfr, hlo⟩ := id C9
  obtain ⟨⟨d1, d2, d3, d4⟩, ⟨f1, f2, f3, f4⟩, m2, m3, m5, m7, m4, m8, m6⟩ := hm
  obtain ⟨hne, hcell⟩ := rcv_cell hR hr
  have hst9 : ∀ v ∈ st, vok h v := fun v hv => hst v (List.mem_append_right _ (List.mem_cons_of_mem _ hv))
  have hav : ∀ v ∈ (.ref b :: as), vok h v := fun v hv => by
    rcases List.mem_cons.mp hv with rfl | hv
    · exact hst _ (List.mem_append_right _ List.mem_cons_self)
    · exact hst v (List.mem_append_left _ (List.mem_reverse.mpr hv))
  have e9 : ((as.reverse ++ .ref b :: st).map (cv ad)) = (as.map (cv ad)).reverse ++ .ref (ad b) :: st.map (cv ad) := by
    rw [List.map_append, List.map_cons, cv_ref hne, List.map_reverse]
  rw [e9]
  have ea : ((Value.ref b :: as).map (cv ad)) = .ref (ad b) :: as.map (cv ad) := by rw [List.map_cons, cv_ref hne]
  have hU : va_CU R s args M.1.cls C M0.1.cls idx M0.1 M'.1 M'.2.1 M'.2.2.1 M'.2.2.2.1 (cwd M' :: gw) ({ frames := lv', cells := mc, slots := ms, locals := 40 * lv' } : Room) mc ms n := by
    refine ⟨⟨rfl, rfl, by show lv' + 1 ≤ _; omega, by show 8 + (M'.2.2.1 + 11) + 40 * lv' ≤ R.locals; omega, pay_gw m6 hts, List.mem_cons_self⟩, hts _ m6, hts _ d1, f2, fun sig h => ?_, hts _ m2, hts _ m3, va_Decl.of (hts _ m5) (hts _ m7), hts _ m4, hts _ m8⟩
    have h9 : parseMethodDescriptor M0.1.desc = some sig := h
    rw [h9] at f3
    exact (Option.some.inj f3).symm
  have hrun := va_runU (e := e) (below := below) (meth := meth) (locs := locs) (cells := cells) (slots := slots) (rest := st.map (cv ad)) (g := F0 m pc la ((as.map (cv ad)).reverse ++ .ref (ad b) :: st.map (cv ad))) ⟨hx, hb, hml, hown, hts⟩ (met_of_vx (hC l hns D tc ad H.size) qx_no) hU ⟨pcn_blind D tc ad h H.size _, hcell, fun U hU hW => ⟨by rw [ea], by rw [hU], hR.enter hU hW, hav⟩⟩ rfl ((List.length_map ..).trans hn) hla.1 rfl (wt_eq ad hwt) hd ⟨by omega, by omega⟩
  exact X_after (T' := fun _ _ => False) (by omega) (by omega) (fun v h' hk => by
    obtain ⟨r, rfl, hk⟩ := hk
    exact X_room (by omega) (by omega) (kr r h' hk)) (fun _ _ z => z.elim) C9 hR hE hst9 hls hla hc hs eR eT (fun T9 hT X9 => Or.inl (hrun T9 hT X9))
end ZZ
