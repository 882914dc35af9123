/-! WIDE TEXTS, INHERITED CALLS, NEW CELLS -/
theorem ce_ext {tc : Nat → ClassId} {ad ad' : Nat → Nat} {h h' : AH} {b : Nat} (w : wf h) (hd : ∀ k, k < mN h → ad' k = ad k) (e1 : mS h' b = mS h b) (e2 : mI h' b = mI h b) (e3 : mR h' b = mR h b) (e4 : mL h' b = mL h b) : ce_ tc ad' h' b = ce_ tc ad h b := by
  have f1 : ∀ j c, fv ad' h' b j c = fv ad h b j c := by
    intro j c
    rcases c with _ | _ | c
    · show Value.int (mI h' b j) = .int (mI h b j)
      rw [e2]
    · show cv ad' (.ref (mR h' b j)) = cv ad (.ref (mR h b j))
      rw [e3]
      exact cv_eq (h := h) hd (v := .ref (mR h b j)) (w.2.1 b j)
    · show Value.long (mL h' b j) = .long (mL h b j)
      rw [e4]
  have f2 : ∀ k, k < mN h → rf ad' k = rf ad k := by
    intro k hk
    unfold rf
    rw [hd k hk]
  have f3 : ∀ t n, ar_ ad' h' b t n = ar_ ad h b t n := by
    intro t n
    unfold ar_
    rw [e2, e4, e3]
    have : (fun i => rf ad' (mR h b i)) = fun i => rf ad (mR h b i) := funext fun i => f2 _ (w.2.1 b i)
    rw [this]
  unfold ce_ fs_
  simp only [e1, f1, f3]
theorem mI_nwo {h : AH} {k n b : Nat} (hb : b ≠ mN h) : mI (nw h k n) b = mI h b := funext fun _ => if_neg hb
theorem mR_nwo {h : AH} {k n b : Nat} (hb : b ≠ mN h) : mR (nw h k n) b = mR h b := funext fun _ => if_neg hb
theorem mL_nwo {h : AH} {k n b : Nat} (hb : b ≠ mN h) : mL (nw h k n) b = mL h b := funext fun _ => if_neg hb
theorem mS_nwo {h : AH} {k n b : Nat} (hb : b ≠ mN h) : mS (nw h k n) b = mS h b := if_neg hb
theorem wf.nw {h : AH} (w : wf h) (k n : Nat) : wf (nw h k n) := by
  have hz := w.1
  have hz2 : (64 : Nat) ≤ mN h := hz
  refine ⟨by rw [mN_nw]; exact Nat.le_succ_of_le hz, fun a j => ?_, fun a ha => ?_, fun a ha => ?_, ?_⟩
  · rw [mR_nw, mN_nw]
    split
    · omega
    · exact Nat.lt_succ_of_lt (w.2.1 a j)
  · rw [mN_nw] at ha
    rw [mS_nwo (by omega)]
    exact w.2.2.1 a (by omega)
  · have ha2 : a < 64 := ha
    rw [mS_nwo (by omega)]
    exact w.2.2.2.1 a ha
  · rw [mS_nwo (by omega)]
    exact w.2.2.2.2
theorem sameS.nw {h : AH} (w : wf h) (k n : Nat) : sameS h (nw h k n) := fun a ha => by
  have hz := w.1
  have hz2 : (64 : Nat) ≤ mN h := hz
  have ha2 : a < 64 := ha
  exact ⟨mS_nwo (by omega), mI_nwo (by omega), mR_nwo (by omega), mL_nwo (by omega)⟩
theorem Rel.push {D : va_G} {tc : Nat → ClassId} {A : Nat → Prop} {ad : Nat → Nat} {h : AH} {s : State} {H H1 : Heap} {locs locs1 : List Loc} {q k n : Nat} {E : va_E} (hR : Rel D tc A ad h s H locs) (hP : va_P D CL (dyn tc ad h ++ [(q, E)]) H1) (hD : va_D A (dyn tc ad h ++ [(q, E)])) (hS : va_S A s.heap H1 locs1) (hE : E = ce_ tc (va_up ad (mN h) q) (nw h k n) (mN h)) : Rel D tc A (va_up ad (mN h) q) (nw h k n) s H1 locs1 := by
  obtain ⟨r1, r2, r3, r4, r5, r6, r7⟩ := hR
  have hd : ∀ b, b < mN h → va_up ad (mN h) q b = ad b := fun b hb => va_up_ne ad q (by omega)
  have e : dyn tc (va_up ad (mN h) q) (nw h k n) = dyn tc ad h ++ [(q, E)] := by
    rw [dyn_push r7.1 (mN_nw h k n) (fun b hb => ⟨hd b hb, ce_ext r7 hd (mS_nwo (by omega)) (mI_nwo (by omega)) (mR_nwo (by omega)) (mL_nwo (by omega))⟩), va_up_self, hE]
  exact ⟨r1, by rw [e]; exact hP, by rw [e]; exact hD, hS, r5.re r7 hd (sameS.nw r7 k n), r6, r7.nw k n⟩
theorem Ext.push {n0 : Nat} {ad0 ad : Nat → Nat} {h0 h : AH} (hE : Ext n0 ad0 h0 ad h) (w : wf h) (q k n : Nat) : Ext n0 ad0 h0 (va_up ad (mN h) q) (nw h k n) := ⟨Nat.le_succ_of_le hE.1, fun b hb => (va_up_ne ad q (by have := hE.1; omega)).trans (hE.2.1 b hb), hE.2.2.tr (sameS.nw w k n)⟩
def dv (c : Nat) : Value := match c with
  | 0 => .int 0
  | 1 => .null
  | _ => .long 0
theorem fv_nw (ad : Nat → Nat) (h : AH) (k n j c : Nat) : fv ad (nw h k n) (mN h) j c = dv c := by
  rcases c with _ | _ | c
  · show Value.int (mI (nw h k n) (mN h) j) = _
    rw [mI_nw, if_pos rfl]
    rfl
  · show cv ad (.ref (mR (nw h k n) (mN h) j)) = _
    rw [mR_nw, if_pos rfl]
    rfl
  · show Value.long (mL (nw h k n) (mN h) j) = _
    rw [mL_nw, if_pos rfl]
    rfl
def NW (own : String) (idx ci N : Nat) : Prop := ∃ (C : String) (TT : u_T) (ty0 : Nat → FieldType), CL[ci]? = some (C, TT, N) ∧ (∀ w ∈ u_ws C TT N, w ∈ gw) ∧ (∀ k, k < N → parseFieldDescriptor (TT k).2.2.1 = some (ty0 k)) ∧ (∀ j, j < N → (fc ci)[j]? = some ((fc ci).getD j 0) ∧ defaultValue (ty0 j) = dv ((fc ci).getD j 0)) ∧ (fc ci).length = N ∧ Cond.classLink own idx C ∈ gw ∧ Cond.instantiable C N ∈ gw ∧ Cond.initialized C ∈ gw ∧ ci < 9
def NA (t : Nat) (atype : ArrayType) : Prop := t < 9 ∧ newarray.typeOf atype = ty_ t ∧ Cond.arrayClass (newarray.typeOf atype) ∈ gw
def az (t n : Nat) : vp_A := (n, if t = 1 then .inr (.inl (fun _ => 0)) else if t = 2 then .inr (.inr (.inr (.inl (fun _ => (0 : Int64).toUInt64)))) else if 5 ≤ t then .inr (.inr (.inr (.inr (fun _ => none)))) else .inl (fun _ => 0))
theorem ar_nw (ad : Nat → Nat) (h : AH) (k m t n : Nat) : ar_ ad (nw h k m) (mN h) t n = az t n := by
  have e1 : mI (nw h k m) (mN h) = fun _ => 0 := funext fun i => by rw [mI_nw, if_pos rfl]
  have e2 : mL (nw h k m) (mN h) = fun _ => 0 := funext fun i => by rw [mL_nw, if_pos rfl]
  have e3 : (fun i => rf ad (mR (nw h k m) (mN h) i)) = fun _ => none := funext fun i => by rw [mR_nw, if_pos rfl]; rfl
  unfold ar_ az
  rw [e1, e2, e3]
section NR
variable {M : Mt} {lv : Nat} {K : Option Value → AH → Prop} {T : String → AH → Prop} {rc rs pc : Nat} {ls : List (Nat × Value)} {st : List Value} {h : AH}
/-- behind a new cell: the point over the greater heap -/
theorem X_fresh {k n rc' rs' pc' : Nat} (kk : X M lv K T rc' rs' pc' ls (.ref (mN h) :: st) (nw h k n))
    {p : Program} {l : Launch} {e : Env} {R : Room} {s : State} {m : MethodId} {args : Array Value} {below : List Frame} {meth : Method} {c : Code} {D : va_G} {tc : Nat → ClassId} {A : Nat → Prop} {n0 : Nat} {ad0 : Nat → Nat} {h0 : AH} {Q : State → Prop} {ad : Nat → Nat} {H : Heap} {locs : List Loc} {cells slots : Nat} {la : Array Slot} {q : Nat}
    (C : Cx M lv p l R s m args meth c) (hw : wf h) (hR : Rel D tc A (va_up ad (mN h) q) (nw h k n) s H locs) (hE : Ext n0 ad0 h0 ad h) (hst : ∀ v ∈ st, vok h v) (hls : ∀ q ∈ ls, vok h q.2) (hla : lv_has la M.2.2.1 (cvl ad ls)) (hc : cells + rc' ≤ R.cells) (hs : slots + rs' ≤ R.slots)
    (eR : EndR M K p l e R s m args below meth c D tc A n0 ad0 h0 Q) (eT : EndT T p l e R s m args below meth c D tc A n0 ad0 h0 Q) : W p l e R s m args below meth c H locs cells slots Q (F0 m pc' la (.ref q :: st.map (cv ad))) := by
  have hd : ∀ b, b < mN h → va_up ad (mN h) q b = ad b := fun b hb => va_up_ne ad q (by omega)
  have hle : mN h ≤ mN (nw h k n) := Nat.le_succ _
  have hne : mN h ≠ 0 := nz_ne hw.1
  have k9 := kk p l e R s m args below meth c D tc A n0 ad0 h0 Q (va_up ad (mN h) q) H locs cells slots la C hR (hE.push hw q k n) (List.forall_mem_cons.mpr ⟨Nat.lt_succ_self _, fun v hv => vok_n hle (hst v hv)⟩) (fun q hq => vok_n hle (hls q hq)) (by rw [cvl_eq hd hls]; exact hla) hc hs eR eT
  rw [List.map_cons, cv_ref hne, va_up_self, cvs_eq hd hst] at k9
  exact k9
theorem X_new {idx ci N rc' rs' : Nat} (hw : NW M.1.cls idx ci N) (hd : decode M.2.1 pc = .ok (.new idx, 3)) (h1 : rc' + 1 ≤ rc) (h2 : rs' + N ≤ rs) (kk : X M lv K T rc' rs' (pc + 3) ls (.ref (mN h) :: st) (nw h (ci + 1) 0)) : X M lv K T rc rs pc ls st h := by
  intro p l e R s m args below meth c D tc A n0 ad0 h0 Q ad H locs cells slots la C hR hE hst hls hla hc hs eR eT
  obtain ⟨hx, hb, hml, hret, hts, hown, hlk, htab, hns, hini, hfr, hlo⟩ := id C
  obtain ⟨r1, r2, r3, r4, r5, r6, r7⟩ := id hR
  obtain ⟨CC, TT, ty0, f1, f2, f3, f4, f5, f6, f7, f8, f9⟩ := hw
  refine va_new (ci := ci) (fs := (fc ci).map dv) hx hb hts f2 ty0 f3 hown (hts _ f6) (hts _ f7) (hts _ f8) r1 r2 r3 r4 r6 f1 (fun j hj => ?_) (by omega) (by omega) hd (fun q H1 hP hD hS1 => ?_)
  · obtain ⟨g1, g2⟩ := f4 j hj
    rw [g2]
    have e9 : ((fc ci).map dv)[j]? = some (dv ((fc ci).getD j 0)) := by
      rw [List.getElem?_map, g1]
      rfl
    show dv ((fc ci).getD j 0) = ((fc ci).map dv).getD j .null
    rw [List.getD_eq_getElem?_getD (l := (fc ci).map dv), e9]
    rfl
  · have hR1 : Rel D tc A (va_up ad (mN h) q) (nw h (ci + 1) 0) s H1 locs := hR.push hP hD hS1 (by
      rw [ce_obj (ci := ci) (n := 0) (by rw [mS_nw, if_pos rfl]) f9]
      unfold fs_
      simp only [fv_nw]
      rw [List.mapIdx_eq_iff.mpr]
      intro i
      rw [List.getElem?_map])
    exact X_fresh kk C r7 hR1 hE hst hls hla (by omega) (by omega) eR eT
theorem X_newa {t rc' rs' N : Nat} {atype : ArrayType} {n : Int32} (ht : NA t atype) (ht5 : t < 5 ∧ t ≠ 2) (hd : decode M.2.1 pc = .ok (.newarray atype, 2)) (hn : ¬ n < 0) (hN : n.toNatClampNeg = N) (hby : N * componentBytes (ty_ t) ≤ 536870912) (h1 : rc' + 1 ≤ rc) (h2 : rs' + N ≤ rs) (kk : X M lv K T rc' rs' (pc + 2) ls (.ref (mN h) :: st) (nw h (100 + t) N)) : X M lv K T rc rs pc ls (.int n :: st) h := by
  intro p l e R s m args below meth c D tc A n0 ad0 h0 Q ad H locs cells slots la C hR hE hst hls hla hc hs eR eT
  obtain ⟨hx, hb, hml, hret, hts, hown, hlk, htab, hns, hini, hfr, hlo⟩ := id C
  obtain ⟨r1, r2, r3, r4, r5, r6, r7⟩ := id hR
  obtain ⟨t1, t2, t3⟩ := ht
  rw [List.map_cons]
  refine va_newa (a0 := az t N) hx hb (hts _ t3) t2 r1 r2 r3 r4 r6 (fun cA => ?_) hn hN hby (by omega) (by omega) hd (fun q cA H1 hK hP hD hS1 => ?_)
  · have h5 : t = 0 ∨ t = 1 ∨ t = 3 ∨ t = 4 := by omega
    rcases h5 with rfl | rfl | rfl | rfl <;> rfl
  · have ht9 : (tys tc)[t]? = some (tc t, ty_ t) := by
      unfold tys
      rw [List.getElem?_map, List.getElem?_range t1]
      rfl
    have hlen : (tys tc ++ [(cA, ty_ t)])[(tys tc).length]? = some (cA, ty_ t) := by simp
    have g1 := (hK.2 _ _ hlen).2
    have g2 := (r1.2 t _ ht9).2
    have hcA : cA = tc t := by
      have h5 : t = 0 ∨ t = 1 ∨ t = 3 ∨ t = 4 := by omega
      rcases h5 with rfl | rfl | rfl | rfl <;> exact Option.some.inj ((show s.vm.findClass _ = some cA from g1).symm.trans g2)
    subst hcA
    have hR1 : Rel D tc A (va_up ad (mN h) q) (nw h (100 + t) N) s H1 locs := hR.push hP hD hS1 (by
      rw [ce_arr (t := t) (n := N) (by rw [mS_nw, if_pos rfl]), ar_nw])
    exact X_fresh kk C r7 hR1 hE (fun v hv => hst v (List.mem_cons_of_mem _ hv)) hls hla (by omega) (by omega) eR eT
theorem X_newq {idx t rc' rs' N : Nat} {CC : String} {n : Int32} (hcl : Cond.classLink M.1.cls idx CC ∈ gw) (hao : CC ∈ [RX7, RX8, RX1]) (ht9 : t < 9) (ht5 : 5 ≤ t) (hty : ty_ t = .object CC) (hd : decode M.2.1 pc = .ok (.anewarray idx, 3)) (hn : ¬ n < 0) (hN : n.toNatClampNeg = N) (hby : N * 4 ≤ 536870912) (h1 : rc' + 1 ≤ rc) (h2 : rs' + N ≤ rs) (kk : X M lv K T rc' rs' (pc + 3) ls (.ref (mN h) :: st) (nw h (100 + t) N)) : X M lv K T rc rs pc ls (.int n :: st) h := by
  intro p l e R s m args below meth c D tc A n0 ad0 h0 Q ad H locs cells slots la C hR hE hst hls hla hc hs eR eT
  obtain ⟨hx, hb, hml, hret, hts, hown, hlk, htab, hns, hini, hfr, hlo⟩ := id C
  obtain ⟨r1, r2, r3, r4, r5, r6, r7⟩ := id hR
  rw [List.map_cons]
  refine va_newq hx hb hown (hts _ hcl) (r5.2.2.2.2.2.2.2.2.2.1 CC hao) r1 r2 r3 r4 r6 hn hN hby (by omega) (by omega) hd (fun q cA H1 hK hP hD hS1 => ?_)
  have ht : (tys tc)[t]? = some (tc t, .object CC) := by
    unfold tys
    rw [List.getElem?_map, List.getElem?_range ht9, ← hty]
    rfl
  have hlen : (tys tc ++ [(cA, .object CC)])[(tys tc).length]? = some (cA, .object CC) := by simp
  obtain ⟨_, _, _, _, _, g1⟩ := (hK.2 _ _ hlen).2
  obtain ⟨_, _, _, _, _, g2⟩ := (r1.2 t _ ht).2
  have hcA : cA = tc t := Option.some.inj (g1.symm.trans g2)
  subst hcA
  have hR1 : Rel D tc A (va_up ad (mN h) q) (nw h (100 + t) N) s H1 locs := hR.push hP hD hS1 (by
    rw [ce_arr (t := t) (n := N) (by rw [mS_nw, if_pos rfl]), ar_nw]
    unfold az
    rw [if_neg (by omega), if_neg (by omega), if_pos ht5])
  exact X_fresh kk C r7 hR1 hE (fun v hv => hst v (List.mem_cons_of_mem _ hv)) hls hla (by omega) (by omega) eR eT
theorem X_throwSW {ik is ic : Nat} {cls text : String} {names : List String} (hw : TW M.1.cls ik is ic cls text names) (d0 : decode M.2.1 pc = .ok (.new ik, 3)) (d3 : decode M.2.1 (pc + 3) = .ok (.dup, 1)) (d4 : decode M.2.1 (pc + 4) = .ok (.ldc_w is, 3)) (d7 : decode M.2.1 (pc + 7) = .ok (.invokespecial ic, 3)) (d10 : decode M.2.1 (pc + 10) = .ok (.athrow, 1))
    (hcov : ∀ x ∈ tableOf M.2.2.2.2, covers x (pc + 10) = false) (hlv : names.length + 5 ≤ lv) (hwt : (st.map fun v => v.category).sum ≤ 8) (hc1 : 1 ≤ rc) (hs1 : 6 ≤ rs) (hT : T cls h) : X M lv K T rc rs pc ls st h := by
  intro p l e R s m args below meth c D tc A n0 ad0 h0 Q ad H locs cells slots la C hR hE hst hls hla hc hs eR eT
  obtain ⟨hx, hb, hml, hret, hts, hown, hlk, htab, hns, hini, hfr, hlo⟩ := id C
  obtain ⟨t1, t2, t3, t4, t5, t6⟩ := hw
  obtain ⟨sa, hstr⟩ := hR.2.2.2.2.1.2.2.2.2.2.1 _ t5
  have hw9 := wt_eq ad hwt
  have h9 := vx_throwSW (m := m) (p := p) (l := l) (e := e) (R := R) (args := args) (below := below) (locs := locs) (cells := cells) (slots := slots) (ls := la) (rest := st.map (cv ad)) (Qc := fun _ _ _ _ => False) (XC := fun E st t => (∃ (h : AH) (ad : Nat → Nat), T E h ∧ Wt D tc A n0 ad0 h0 ad h t) ∧ va_F A st t) (mc := R.cells) (ms := R.slots) (free := A) (names := names) hx hb hns hown t1 t2 (hts _ t3) (hts _ t4) hstr (fun w hw => okW_at hR.2.2.2.2.1 hts (t6 w hw).1 (t6 w hw).2) (fun w hw => by
    rcases List.mem_cons.mp hw with rfl | hw
    · exact gw_ot t3
    · rcases List.mem_cons.mp hw with rfl | hw
      · exact gw_ot t4
      · exact okW_ot (t6 w hw).2) hR.2.2.2.2.1.2.1 hR.2.2.2.2.1.2.2.1 hR.2.2.2.1 (hla.1.trans hml.symm) d0 d3 d4 d7 d10 (by rw [htab]; exact hcov) (by omega) (by omega) (by omega) (by omega) hlk (fun t _ hz hq => by
    obtain ⟨w1, w2⟩ := wt_of hR hE (t := t) hz hq
    exact ⟨⟨h, ad, hT, w1⟩, w2⟩) hR.2.2.2.1.2.2 (by omega) (by omega)
  intro T9 hT9 X9
  obtain ⟨t, a1, b1⟩ := h9 T9 hT9 X9
  exact ⟨t, a1, eT t b1⟩
theorem X_getstN {idx j : Nat} {o n d host : String} {v : Int32} {x : Nat} (hq : zsl[j]? = some (o, n, d, 1, v, x)) (hne : x ≠ 0) (hl : (M.1.cls, idx, o, n, d, host) ∈ nfl) (hd : decode M.2.1 pc = .ok (.getstatic idx, 3)) (kk : X M lv K T rc rs (pc + 3) ls (.ref x :: st) h) : X M lv K T rc rs pc ls st h := by
  intro p l e R s m args below meth c D tc A n0 ad0 h0 Q ad H locs cells slots la C hR hE hst hls hla hc hs eR eT
  obtain ⟨hx, hb, hml, hret, hts, hown, hlk, htab, hns, hini, hfr, hlo⟩ := id C
  obtain ⟨r1, r2, r3, r4, r5, r6, r7⟩ := id hR
  have hm := List.mem_of_getElem? hq
  have h9 := r5.2.2.2.1 _ hm
  have hz : x < nZ := (show ∀ q ∈ zsl, q.2.2.2.2.2 < nZ by decide +kernel) _ hm
  have k9 := kk p l e R s m args below meth c D tc A n0 ad0 h0 Q ad H locs cells slots la C hR hE (List.forall_mem_cons.mpr ⟨Nat.lt_of_lt_of_le hz r7.1, hst⟩) hls hla hc hs eR eT
  rw [List.map_cons, cv_ref hne] at k9
  exact va_getsN (host := host) hx hb h9 r4 hown (va_Nw.use rfl (r5.2.2.2.2.2.2.1 _ hl)) (fun _ h => h) hd k9
end NR
