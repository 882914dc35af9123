/-! ROWS OVER THE HEAP -/
theorem mI_uIo {h : AH} {a j b : Nat} {v : Int32} (hb : b ≠ a) : mI (uI h a j v) b = mI h b := funext fun _ => if_neg (fun z => hb z.1)
theorem mR_uRo {h : AH} {a j b v : Nat} (hb : b ≠ a) : mR (uR h a j v) b = mR h b := funext fun _ => if_neg (fun z => hb z.1)
theorem mL_uLo {h : AH} {a j b : Nat} {v : Int64} (hb : b ≠ a) : mL (uL h a j v) b = mL h b := funext fun _ => if_neg (fun z => hb z.1)
theorem mL_uLo2 {h : AH} {a j b i : Nat} {v : Int64} (hb : b ≠ a) : mL (uL h a j v) b i = mL h b i := if_neg (fun z => hb z.1)
theorem nz_ne {a : Nat} (h : nZ ≤ a) : a ≠ 0 := by have : (64 : Nat) ≤ a := h; omega
theorem ce_uI {tc : Nat → ClassId} {ad : Nat → Nat} {h : AH} {a j b : Nat} {v : Int32} (hb : b ≠ a) : ce_ tc ad (uI h a j v) b = ce_ tc ad h b := by
  simp only [ce_, fs_, ar_, fv, mS_uI, mR_uI, mL_uI, mI_uIo hb]
theorem ce_uR {tc : Nat → ClassId} {ad : Nat → Nat} {h : AH} {a j b v : Nat} (hb : b ≠ a) : ce_ tc ad (uR h a j v) b = ce_ tc ad h b := by
  simp only [ce_, fs_, ar_, fv, mS_uR, mI_uR, mL_uR, mR_uRo hb]
theorem ce_uL {tc : Nat → ClassId} {ad : Nat → Nat} {h : AH} {a j b : Nat} {v : Int64} (hb : b ≠ a) : ce_ tc ad (uL h a j v) b = ce_ tc ad h b := by
  simp only [ce_, fs_, ar_, fv, mS_uL, mI_uL, mR_uL, mL_uLo hb, mL_uLo2 hb]
  rfl
theorem wf.uI {h : AH} (w : wf h) (a j : Nat) (v : Int32) : wf (uI h a j v) := w
theorem wf.uL {h : AH} (w : wf h) (a j : Nat) (v : Int64) : wf (uL h a j v) := w
theorem wf.uR {h : AH} (w : wf h) (a j : Nat) {v : Nat} (hv : v < mN h) : wf (uR h a j v) := ⟨w.1, fun b i => by
  rw [mR_uR]
  split
  · exact hv
  · exact w.2.1 b i, w.2.2.1, w.2.2.2⟩
theorem sameS.uI {h : AH} {a : Nat} (ha : nZ ≤ a) (j : Nat) (v : Int32) : sameS h (uI h a j v) := fun k hk => ⟨rfl, mI_uIo (by omega), rfl, rfl⟩
theorem sameS.uR {h : AH} {a : Nat} (ha : nZ ≤ a) (j v : Nat) : sameS h (uR h a j v) := fun k hk => ⟨rfl, rfl, mR_uRo (by omega), rfl⟩
theorem sameS.uL {h : AH} {a : Nat} (ha : nZ ≤ a) (j : Nat) (v : Int64) : sameS h (uL h a j v) := fun k hk => ⟨rfl, rfl, rfl, mL_uLo (by omega)⟩
theorem Rel.put {D : va_G} {tc : Nat → ClassId} {A : Nat → Prop} {ad : Nat → Nat} {h h' : AH} {s : State} {H H1 : Heap} {locs locs1 : List Loc} {a : Nat} {E : va_E} (hR : Rel D tc A ad h s H locs) (hP : va_P D CL ((dyn tc ad h).set (a - nZ) (ad a, E)) H1) (hD : va_D A ((dyn tc ad h).set (a - nZ) (ad a, E))) (hS : va_S A s.heap H1 locs1)
    (hE : E = ce_ tc ad h' a) (hn : mN h' = mN h) (hz : nZ ≤ a) (ha : a < mN h) (hb : ∀ b, b ≠ a → ce_ tc ad h' b = ce_ tc ad h b) (hw : wf h') (hh : sameS h h') : Rel D tc A ad h' s H1 locs1 := by
  obtain ⟨r1, r2, r3, r4, r5, r6, r7⟩ := hR
  subst hE
  rw [dyn_set hn hz ha hb] at hP hD
  exact ⟨r1, hP, hD, hS, r5.re r7 (fun _ _ => rfl) hh, r6, hw⟩
theorem Ext.put {n0 : Nat} {ad0 ad : Nat → Nat} {h0 h h' : AH} (hE : Ext n0 ad0 h0 ad h) (hn : mN h' = mN h) (hh : sameS h h') : Ext n0 ad0 h0 ad h' := ⟨by rw [hn]; exact hE.1, hE.2.1, hE.2.2.tr hh⟩
theorem vok_n {h h' : AH} (hn : mN h ≤ mN h') {v : Value} (hv : vok h v) : vok h' v := by
  cases v <;> first | exact hv | exact Nat.lt_of_lt_of_le hv hn
/-- the links of fields, by the tables -/
def FL (own : String) (idx ci k code : Nat) : Prop := ∃ (C : String) (TT : u_T) (N : Nat), CL[ci]? = some (C, TT, N) ∧ (∀ w ∈ u_ws C TT N, w ∈ gw) ∧ k < N ∧ (fc ci)[k]? = some code ∧ ci < 9 ∧
  (Cond.fieldLink own idx (TT k).1 (TT k).2.1 (TT k).2.2.1 ∈ gw ∨ ∃ host, (own, idx, (TT k).1, (TT k).2.1, (TT k).2.2.1, host) ∈ nfl)
def FP (own : String) (idx ci k code : Nat) (ty : FieldType) (fin : Bool) : Prop := ∃ (C : String) (TT : u_T) (N : Nat) (ty0 : Nat → FieldType), CL[ci]? = some (C, TT, N) ∧ (∀ w ∈ u_ws C TT N, w ∈ gw) ∧ k < N ∧ (fc ci)[k]? = some code ∧ ci < 9 ∧
  (Cond.fieldLink own idx (TT k).1 (TT k).2.1 (TT k).2.2.1 ∈ gw ∨ (fin = false ∧ ∃ host, (own, idx, (TT k).1, (TT k).2.1, (TT k).2.2.1, host) ∈ nfl)) ∧
  (∀ k, k < N → parseFieldDescriptor (TT k).2.2.1 = some (ty0 k)) ∧ (∀ a, a < N → ∀ b, b < N → a ≠ b → (TT a).2.1 ≠ (TT b).2.1) ∧ (TT k).2.2.2 = fin ∧ ty0 k = ty ∧ (fin = true → (TT k).1 = own)
section HR
variable {M : Mt} {lv : Nat} {K : Option Value → AH → Prop} {T : String → AH → Prop} {rc rs pc : Nat} {ls : List (Nat × Value)} {st : List Value} {h : AH}
def av (h : AH) (a k c : Nat) : Value := match c with
  | 0 => .int (mI h a k)
  | 1 => .ref (mR h a k)
  | _ => .long (mL h a k)
theorem av_fv (ad : Nat → Nat) (h : AH) (a k c : Nat) : cv ad (av h a k c) = fv ad h a k c := by
  rcases c with _ | _ | c <;> rfl
theorem av_ok {h : AH} (w : wf h) (a k c : Nat) : vok h (av h a k c) := by
  unfold av
  split
  · trivial
  · exact w.2.1 a k
  · trivial
theorem X_get {idx ci k c a : Nat} (hF : FL M.1.cls idx ci k c) (hd : decode M.2.1 pc = .ok (.getfield idx, 3)) (ho : mS h a = (ci + 1, 0)) (kk : X M lv K T rc rs (pc + 3) ls (av h a k c :: st) h) : X M lv K T rc rs pc ls (.ref a :: st) h := by
  intro p l e R s m args below meth cc D tc A n0 ad0 h0 Q ad H locs cells slots la C hR hE hst hls hla hc hs eR eT
  obtain ⟨hx, hb, hml, hret, hts, hown, hlk, htab, hns, hini, hfr, hlo⟩ := id C
  obtain ⟨r1, r2, r3, r4, r5, r6, r7⟩ := id hR
  obtain ⟨CC, TT, N, f1, f2, f3, f4, f5, f6⟩ := hF
  obtain ⟨hz, ha⟩ := r7.dynz ho (by omega) (by omega)
  have k9 := kk p l e R s m args below meth cc D tc A n0 ad0 h0 Q ad H locs cells slots la C hR hE (List.forall_mem_cons.mpr ⟨av_ok r7 a k c, fun v hv => hst v (List.mem_cons_of_mem _ hv)⟩) hls hla hc hs eR eT
  rw [List.map_cons, av_fv] at k9
  rw [List.map_cons, cv_ref (nz_ne hz)]
  have he := dyn_get (tc := tc) (ad := ad) hz ha
  rw [ce_obj ho f5] at he
  rcases f6 with f6 | ⟨host, f6⟩
  · exact va_get hx hb hts f2 hown r1 r2 (a - nZ) he f1 k f3 (hts _ f6) (fun _ h9 => h9) (fs_get f4) hd k9
  · exact va_getN (host := host) hx hb hts f2 hown r1 r2 (a - nZ) he f1 k f3 (va_Nw.use rfl (r5.2.2.2.2.2.2.1 _ f6)) (fun _ h9 => h9) (fs_get f4) hd k9
theorem X_getI {idx ci k a : Nat} (hF : FL M.1.cls idx ci k 0) (hd : decode M.2.1 pc = .ok (.getfield idx, 3)) (ho : mS h a = (ci + 1, 0)) (kk : X M lv K T rc rs (pc + 3) ls (.int (mI h a k) :: st) h) : X M lv K T rc rs pc ls (.ref a :: st) h := X_get hF hd ho kk
theorem X_getR {idx ci k a : Nat} (hF : FL M.1.cls idx ci k 1) (hd : decode M.2.1 pc = .ok (.getfield idx, 3)) (ho : mS h a = (ci + 1, 0)) (kk : X M lv K T rc rs (pc + 3) ls (.ref (mR h a k) :: st) h) : X M lv K T rc rs pc ls (.ref a :: st) h := X_get hF hd ho kk
theorem X_getL {idx ci k a : Nat} (hF : FL M.1.cls idx ci k 2) (hd : decode M.2.1 pc = .ok (.getfield idx, 3)) (ho : mS h a = (ci + 1, 0)) (kk : X M lv K T rc rs (pc + 3) ls (.long (mL h a k) :: st) h) : X M lv K T rc rs pc ls (.ref a :: st) h := X_get hF hd ho kk
/-- a store into a field, of any kind: h' is the heap behind it -/
theorem X_put {idx ci k c a : Nat} {ty : FieldType} {fin : Bool} {v : Value} {h' : AH} (hF : FP M.1.cls idx ci k c ty fin) (hd : decode M.2.1 pc = .ok (.putfield idx, 3)) (ho : mS h a = (ci + 1, 0)) (hfin : fin = true → M.1.name = "<init>")
    (hv : ∀ ad, cv ad v = fv ad h' a k c) (hoth : ∀ ad j c', j ≠ k → fv ad h' a j c' = fv ad h a j c') (hn1 : ∀ ad, narrow ty (cv ad v) = cv ad v) (hfit : ∀ ad, fits ty (cv ad v) = true)
    (hn : mN h' = mN h) (hS : mS h' = mS h) (hb : ∀ tc ad b, b ≠ a → ce_ tc ad h' b = ce_ tc ad h b) (hw : wf h → vok h v → wf h') (hh : nZ ≤ a → sameS h h') (kk : X M lv K T rc rs (pc + 3) ls st h') : X M lv K T rc rs pc ls (v :: .ref a :: st) h := by
  intro p l e R s m args below meth cc D tc A n0 ad0 h0 Q ad H locs cells slots la C hR hE hst hls hla hc hs eR eT
  obtain ⟨hx, hb0, hml, hret, hts, hown, hlk, htab, hns, hini, hfr, hlo⟩ := id C
  obtain ⟨r1, r2, r3, r4, r5, r6, r7⟩ := id hR
  obtain ⟨CC, TT, N, ty0, f1, f2, f3, f4, f5, f6, f7, f8, f9, f10, f11⟩ := hF
  obtain ⟨hz, ha⟩ := r7.dynz ho (by omega) (by omega)
  rw [List.map_cons, List.map_cons, cv_ref (nz_ne hz)]
  have he := dyn_get (tc := tc) (ad := ad) hz ha
  rw [ce_obj ho f5] at he
  have hl : k < (fs_ ad h a ci).length := by rw [fs_len]; exact (List.getElem?_eq_some_iff.mp f4).1
  have hd2 : parseFieldDescriptor (TT k).2.2.1 = some ty := by rw [f7 k f3, f10]
  have hv0 := hst _ List.mem_cons_self
  have k9 : ∀ (H1 : Heap) (locs1 : List Loc), va_P D CL ((dyn tc ad h).set (a - nZ) (ad a, .inr (ci, (fs_ ad h a ci).set k (cv ad v)))) H1 → va_D A ((dyn tc ad h).set (a - nZ) (ad a, .inr (ci, (fs_ ad h a ci).set k (cv ad v)))) → va_S A s.heap H1 locs1 → W p l e R s m args below meth cc H1 locs1 cells slots Q (F0 m (pc + 3) la (st.map (cv ad))) := by
    intro H1 locs1 hP hD hS1
    have hR1 : Rel D tc A ad h' s H1 locs1 := hR.put hP hD hS1 (by
      rw [ce_obj (by rw [hS]; exact ho) f5, hv, fs_set f4 (hoth ad)]) hn hz ha (hb tc ad) (hw r7 hv0) (hh hz)
    exact kk p l e R s m args below meth cc D tc A n0 ad0 h0 Q ad H1 locs1 cells slots la C hR1 (hE.put hn (hh hz)) (fun v hv => vok_n (Nat.le_of_eq hn.symm) (hst v (List.mem_cons_of_mem _ (List.mem_cons_of_mem _ hv)))) (fun q hq => vok_n (Nat.le_of_eq hn.symm) (hls q hq)) hla hc hs eR eT
  cases fin with
  | false =>
    rcases f6 with f6 | ⟨-, host, f6⟩
    · exact va_put hx hb0 hts f2 ty0 f7 f8 hown r1 r2 r3 r4 (a - nZ) he f1 k f3 (hts _ f6) (fun _ h9 => h9) f9 hd2 (hn1 ad) (hfit ad) hl hd k9
    · exact va_putN (host := host) hx hb0 hts f2 ty0 f7 f8 hown r1 r2 r3 r4 (a - nZ) he f1 k f3 (va_Nw.use rfl (r5.2.2.2.2.2.2.1 _ f6)) (fun _ h9 => h9) f9 hd2 (hn1 ad) (hfit ad) hl hd k9
  | true =>
    rcases f6 with f6 | ⟨h9, -⟩
    · exact va_putF hx hb0 hts f2 ty0 f7 f8 hown r1 r2 r3 r4 (a - nZ) he f1 k f3 (hts _ f6) (fun _ h9 => h9) f9 (hini (hfin rfl)) (f11 rfl) hd2 (hn1 ad) (hfit ad) hl hd k9
    · cases h9
theorem fv_uIo {ad : Nat → Nat} {h : AH} {a k : Nat} {x : Int32} (j c' : Nat) (hj : j ≠ k) : fv ad (uI h a k x) a j c' = fv ad h a j c' := by
  unfold fv
  simp only [mI_uI, mR_uI, mL_uI, hj, and_false, if_false]
theorem fv_uRo {ad : Nat → Nat} {h : AH} {a k x : Nat} (j c' : Nat) (hj : j ≠ k) : fv ad (uR h a k x) a j c' = fv ad h a j c' := by
  unfold fv
  simp only [mR_uR, mI_uR, mL_uR, hj, and_false, if_false]
theorem fv_uLo {ad : Nat → Nat} {h : AH} {a k : Nat} {x : Int64} (j c' : Nat) (hj : j ≠ k) : fv ad (uL h a k x) a j c' = fv ad h a j c' := by
  unfold fv
  simp only [mL_uL, mI_uL, mR_uL, hj, and_false, if_false]
theorem X_putI {idx ci k a : Nat} {ty : FieldType} {fin : Bool} {x : Int32} (hF : FP M.1.cls idx ci k 0 ty fin) (hd : decode M.2.1 pc = .ok (.putfield idx, 3)) (hfin : fin = true → M.1.name = "<init>") (ho : mS h a = (ci + 1, 0)) (hn1 : narrow ty (.int x) = .int x) (hfit : fits ty (.int x) = true)
    (kk : X M lv K T rc rs (pc + 3) ls st (uI h a k x)) : X M lv K T rc rs pc ls (.int x :: .ref a :: st) h :=
  X_put hF hd ho hfin (fun ad => by simp only [fv, mI_uI, and_self, if_true, cv]) (fun ad j c' hj => fv_uIo j c' hj) (fun ad => hn1) (fun ad => hfit) rfl rfl (fun tc ad b hb => ce_uI hb) (fun w _ => w.uI a k x) (fun hz => sameS.uI hz k x) kk
theorem X_putR {idx ci k a b : Nat} {ty : FieldType} {fin : Bool} (hF : FP M.1.cls idx ci k 1 ty fin) (hd : decode M.2.1 pc = .ok (.putfield idx, 3)) (hfin : fin = true → M.1.name = "<init>") (hty : (∃ n, ty = .object n) ∨ ∃ t, ty = .array t) (ho : mS h a = (ci + 1, 0))
    (kk : X M lv K T rc rs (pc + 3) ls st (uR h a k b)) : X M lv K T rc rs pc ls (.ref b :: .ref a :: st) h :=
  X_put hF hd ho hfin (fun ad => by simp only [fv, mR_uR, and_self, if_true]) (fun ad j c' hj => fv_uRo j c' hj) (fun ad => by
    rcases hty with ⟨n, rfl⟩ | ⟨t, rfl⟩ <;> (unfold cv; by_cases z : b = 0 <;> simp [z, narrow])) (fun ad => by
    rcases hty with ⟨n, rfl⟩ | ⟨t, rfl⟩ <;> (unfold cv; by_cases z : b = 0 <;> simp [z, fits])) rfl rfl (fun tc ad b hb => ce_uR hb) (fun w hv => w.uR a k hv) (fun hz => sameS.uR hz k b) kk
theorem X_putL {idx ci k a : Nat} {fin : Bool} {x : Int64} (hF : FP M.1.cls idx ci k 2 .long fin) (hd : decode M.2.1 pc = .ok (.putfield idx, 3)) (hfin : fin = true → M.1.name = "<init>") (ho : mS h a = (ci + 1, 0))
    (kk : X M lv K T rc rs (pc + 3) ls st (uL h a k x)) : X M lv K T rc rs pc ls (.long x :: .ref a :: st) h :=
  X_put hF hd ho hfin (fun ad => by simp only [fv, mL_uL, and_self, if_true, cv]) (fun ad j c' hj => fv_uLo j c' hj) (fun ad => rfl) (fun ad => rfl) rfl rfl (fun tc ad b hb => ce_uL hb) (fun w _ => w.uL a k x) (fun hz => sameS.uL hz k x) kk
end HR
