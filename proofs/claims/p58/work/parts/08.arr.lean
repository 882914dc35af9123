/-! ARRAYS, STATICS, NEW CELLS -/
section AR
variable {M : Mt} {lv : Nat} {K : Option Value → AH → Prop} {T : String → AH → Prop} {rc rs pc : Nat} {ls : List (Nat × Value)} {st : List Value} {h : AH}
theorem X_getS {idx a j kd c : Nat} {o n d : String} (hd : decode M.2.1 pc = .ok (.getfield idx, 3)) (hk : kd = 20 ∨ kd = 21) (hq : (sFd kd)[j]? = some (o, n, d)) (hcd : (fc (kd - 1)).getD j 0 = c)
    (hl : Cond.fieldLink M.1.cls idx o n d ∈ gw ∨ ∃ host, (M.1.cls, idx, o, n, d, host) ∈ nfl) (ho : mS h a = (kd, 0)) (hz : a < nZ) (kk : X M lv K T rc rs (pc + 3) ls (av h a j c :: st) h) : X M lv K T rc rs pc ls (.ref a :: st) h := by
  intro p l e R s m args below meth cc D tc A n0 ad0 h0 Q ad H locs cells slots la C hR hE hst hls hla hc hs eR eT
  obtain ⟨hx, hb, hml, hret, hts, hown, hlk, htab, hns, hini, hfr, hlo⟩ := id C
  obtain ⟨r1, r2, r3, r4, r5, r6, r7⟩ := id hR
  have h9 := ((r5.1 a hz).1 (by rw [ho]; exact hk)).2 j (o, n, d) (by rw [ho]; exact hq)
  rw [ho] at h9
  simp only [hcd] at h9
  have hne : a ≠ 0 := fun z => by
    subst z
    rw [r7.2.2.2.2] at ho
    cases ho
    rcases hk with hk | hk <;> cases hk
  have k9 := kk p l e R s m args below meth cc D tc A n0 ad0 h0 Q ad H locs cells slots la C hR hE (List.forall_mem_cons.mpr ⟨av_ok r7 a j c, (fun v hv => hst v (List.mem_cons_of_mem _ hv))⟩) hls hla hc hs eR eT
  rw [List.map_cons, av_fv] at k9
  rw [List.map_cons, cv_ref hne]
  rcases hl with hl | ⟨host, hl⟩
  · exact vk_getf hx hb h9 r4 hown (hts _ hl) (fun _ h => h) hd k9
  · obtain ⟨cf, k, fi, f, cell, h1, h2, h3, h4, h5, h6⟩ := h9.kept r4.2.1
    exact va_Wgetf hx hb hown (va_Nw.use rfl (r5.2.2.2.2.2.2.1 _ hl)) h1 h2 h3 h4 (v := fv ad h a j c) h5 rfl rfl hd k9
theorem X_getstI {idx j : Nat} {o n d : String} {v : Int32} {x : Nat} (hq : zsl[j]? = some (o, n, d, 0, v, x)) (hl : Cond.fieldLink M.1.cls idx o n d ∈ gw) (hd : decode M.2.1 pc = .ok (.getstatic idx, 3)) (kk : X M lv K T rc rs (pc + 3) ls (.int v :: st) h) : X M lv K T rc rs pc ls st h := by
  intro p l e R s m args below meth cc D tc A n0 ad0 h0 Q ad H locs cells slots la C hR hE hst hls hla hc hs eR eT
  obtain ⟨hx, hb, hml, hret, hts, hown, hlk, htab, hns, hini, hfr, hlo⟩ := id C
  obtain ⟨r1, r2, r3, r4, r5, r6, r7⟩ := id hR
  have h9 := r5.2.2.2.1 _ (List.mem_of_getElem? hq)
  exact va_gets hx hb h9 r4 hown (hts _ hl) (fun _ h => h) hd (kk p l e R s m args below meth cc D tc A n0 ad0 h0 Q ad H locs cells slots la C hR hE (List.forall_mem_cons.mpr ⟨trivial, hst⟩) hls hla hc hs eR eT)
theorem X_getstR {idx j : Nat} {o n d : String} {v : Int32} {x : Nat} (hq : zsl[j]? = some (o, n, d, 1, v, x)) (hne : x ≠ 0) (hl : Cond.fieldLink M.1.cls idx o n d ∈ gw) (hd : decode M.2.1 pc = .ok (.getstatic idx, 3)) (kk : X M lv K T rc rs (pc + 3) ls (.ref x :: st) h) : X M lv K T rc rs pc ls st h := by
  intro p l e R s m args below meth cc D tc A n0 ad0 h0 Q ad H locs cells slots la C hR hE hst hls hla hc hs eR eT
  obtain ⟨hx, hb, hml, hret, hts, hown, hlk, htab, hns, hini, hfr, hlo⟩ := id C
  obtain ⟨r1, r2, r3, r4, r5, r6, r7⟩ := id hR
  have hm := List.mem_of_getElem? hq
  have h9 := r5.2.2.2.1 _ hm
  have hz : x < nZ := (show ∀ q ∈ zsl, q.2.2.2.2.2 < nZ by decide +kernel) _ hm
  have k9 := kk p l e R s m args below meth cc D tc A n0 ad0 h0 Q ad H locs cells slots la C hR hE (List.forall_mem_cons.mpr ⟨Nat.lt_of_lt_of_le hz r7.1, hst⟩) hls hla hc hs eR eT
  rw [List.map_cons, cv_ref hne] at k9
  exact va_gets hx hb h9 r4 hown (hts _ hl) (fun _ h => h) hd k9
theorem X_ldcS {idx j : Nat} {tx : String} {x : Nat} (hq : stl[j]? = some (M.1.cls, idx, tx, x)) (hne : x ≠ 0) {n : Nat} (hn : n = 2) (hd : decode M.2.1 pc = .ok (.ldc idx, 2)) (kk : X M lv K T rc rs (pc + 2) ls (.ref x :: st) h) : X M lv K T rc rs pc ls st h := by
  intro p l e R s m args below meth cc D tc A n0 ad0 h0 Q ad H locs cells slots la C hR hE hst hls hla hc hs eR eT
  obtain ⟨hx, hb, hml, hret, hts, hown, hlk, htab, hns, hini, hfr, hlo⟩ := id C
  obtain ⟨r1, r2, r3, r4, r5, r6, r7⟩ := id hR
  have hm := List.mem_of_getElem? hq
  have h9 := r5.2.2.2.2.1 _ hm
  have hz : x < nZ := (show ∀ q ∈ stl, q.2.2.2 < nZ by decide +kernel) _ hm
  have k9 := kk p l e R s m args below meth cc D tc A n0 ad0 h0 Q ad H locs cells slots la C hR hE (List.forall_mem_cons.mpr ⟨Nat.lt_of_lt_of_le hz r7.1, hst⟩) hls hla hc hs eR eT
  rw [List.map_cons, cv_ref hne] at k9
  exact va_ldcS hx hb hown h9 hd k9
theorem wf.ne0 {h : AH} (w : wf h) {a k n : Nat} (ho : mS h a = (k, n)) (hk : k ≠ 0) : a ≠ 0 := fun z => by
  subst z
  rw [w.2.2.2.2] at ho
  cases ho
  exact hk rfl
theorem X_iald {a n : Nat} {i : Int32} (hd : decode M.2.1 pc = .ok (.iaload, 1)) (ho : mS h a = (100, n)) (hi : vp_in i n) (kk : X M lv K T rc rs (pc + 1) ls (.int (mI h a i.toNatClampNeg) :: st) h) : X M lv K T rc rs pc ls (.int i :: .ref a :: st) h := by
  intro p l e R s m args below meth cc D tc A n0 ad0 h0 Q ad H locs cells slots la C hR hE hst hls hla hc hs eR eT
  obtain ⟨hx, hb, hml, hret, hts, hown, hlk, htab, hns, hini, hfr, hlo⟩ := id C
  obtain ⟨r1, r2, r3, r4, r5, r6, r7⟩ := id hR
  have hne := r7.ne0 ho (by decide)
  have hlt := r7.lt ho (by decide)
  have k9 := kk p l e R s m args below meth cc D tc A n0 ad0 h0 Q ad H locs cells slots la C hR hE (List.forall_mem_cons.mpr ⟨trivial, (fun v hv => hst v (List.mem_cons_of_mem _ (List.mem_cons_of_mem _ hv)))⟩) hls hla hc hs eR eT
  rw [List.map_cons, List.map_cons, cv_ref hne]
  rw [List.map_cons] at k9
  by_cases hz : a < nZ
  · have h9 := (r5.1 a hz).2 (by rw [ho]; exact (show (100 : Nat) ≤ 100 + 0 by decide))
    rw [ho] at h9
    exact va_ti hx hb h9 r4 hi rfl hd k9
  · have he := dyn_get (tc := tc) (ad := ad) (Nat.le_of_not_lt hz) hlt
    rw [ce_arr (t := 0) ho] at he
    exact va_iald hx hb r1 r2 (a - nZ) 0 he rfl hi hd k9
theorem X_bald {a n : Nat} {i : Int32} (hd : decode M.2.1 pc = .ok (.baload, 1)) (ho : mS h a = (103, n)) (hi : vp_in i n) (kk : X M lv K T rc rs (pc + 1) ls (.int (mI h a i.toNatClampNeg) :: st) h) : X M lv K T rc rs pc ls (.int i :: .ref a :: st) h := by
  intro p l e R s m args below meth cc D tc A n0 ad0 h0 Q ad H locs cells slots la C hR hE hst hls hla hc hs eR eT
  obtain ⟨hx, hb, hml, hret, hts, hown, hlk, htab, hns, hini, hfr, hlo⟩ := id C
  obtain ⟨r1, r2, r3, r4, r5, r6, r7⟩ := id hR
  have hne := r7.ne0 ho (by decide)
  have hlt := r7.lt ho (by decide)
  have k9 := kk p l e R s m args below meth cc D tc A n0 ad0 h0 Q ad H locs cells slots la C hR hE (List.forall_mem_cons.mpr ⟨trivial, (fun v hv => hst v (List.mem_cons_of_mem _ (List.mem_cons_of_mem _ hv)))⟩) hls hla hc hs eR eT
  rw [List.map_cons, List.map_cons, cv_ref hne]
  rw [List.map_cons] at k9
  by_cases hz : a < nZ
  · have h9 := (r5.1 a hz).2 (by rw [ho]; exact (show (100 : Nat) ≤ 100 + 3 by decide))
    rw [ho] at h9
    exact va_tb hx hb h9 r4 hi rfl hd k9
  · have he := dyn_get (tc := tc) (ad := ad) (Nat.le_of_not_lt hz) hlt
    rw [ce_arr (t := 3) ho] at he
    exact va_bald hx hb r1 r2 (a - nZ) 3 he rfl hi hd k9
theorem X_cald {a n : Nat} {i : Int32} (hd : decode M.2.1 pc = .ok (.caload, 1)) (ho : mS h a = (104, n)) (hi : vp_in i n) (kk : X M lv K T rc rs (pc + 1) ls (.int (mI h a i.toNatClampNeg) :: st) h) : X M lv K T rc rs pc ls (.int i :: .ref a :: st) h := by
  intro p l e R s m args below meth cc D tc A n0 ad0 h0 Q ad H locs cells slots la C hR hE hst hls hla hc hs eR eT
  obtain ⟨hx, hb, hml, hret, hts, hown, hlk, htab, hns, hini, hfr, hlo⟩ := id C
  obtain ⟨r1, r2, r3, r4, r5, r6, r7⟩ := id hR
  have hne := r7.ne0 ho (by decide)
  have hlt := r7.lt ho (by decide)
  have k9 := kk p l e R s m args below meth cc D tc A n0 ad0 h0 Q ad H locs cells slots la C hR hE (List.forall_mem_cons.mpr ⟨trivial, (fun v hv => hst v (List.mem_cons_of_mem _ (List.mem_cons_of_mem _ hv)))⟩) hls hla hc hs eR eT
  rw [List.map_cons, List.map_cons, cv_ref hne]
  rw [List.map_cons] at k9
  by_cases hz : a < nZ
  · have h9 := (r5.1 a hz).2 (by rw [ho]; exact (show (100 : Nat) ≤ 100 + 4 by decide))
    rw [ho] at h9
    exact va_tc hx hb h9 r4 hi rfl hd k9
  · have he := dyn_get (tc := tc) (ad := ad) (Nat.le_of_not_lt hz) hlt
    rw [ce_arr (t := 4) ho] at he
    exact va_cald hx hb r1 r2 (a - nZ) 4 he rfl hi hd k9
theorem X_lald {a n : Nat} {i : Int32} (hd : decode M.2.1 pc = .ok (.laload, 1)) (ho : mS h a = (101, n)) (hi : vp_in i n) (kk : X M lv K T rc rs (pc + 1) ls (.long (mL h a i.toNatClampNeg) :: st) h) : X M lv K T rc rs pc ls (.int i :: .ref a :: st) h := by
  intro p l e R s m args below meth cc D tc A n0 ad0 h0 Q ad H locs cells slots la C hR hE hst hls hla hc hs eR eT
  obtain ⟨hx, hb, hml, hret, hts, hown, hlk, htab, hns, hini, hfr, hlo⟩ := id C
  obtain ⟨r1, r2, r3, r4, r5, r6, r7⟩ := id hR
  have hne := r7.ne0 ho (by decide)
  have hlt := r7.lt ho (by decide)
  have k9 := kk p l e R s m args below meth cc D tc A n0 ad0 h0 Q ad H locs cells slots la C hR hE (List.forall_mem_cons.mpr ⟨trivial, (fun v hv => hst v (List.mem_cons_of_mem _ (List.mem_cons_of_mem _ hv)))⟩) hls hla hc hs eR eT
  rw [List.map_cons, List.map_cons, cv_ref hne]
  rw [List.map_cons] at k9
  by_cases hz : a < nZ
  · have h9 := (r5.1 a hz).2 (by rw [ho]; exact (show (100 : Nat) ≤ 100 + 1 by decide))
    rw [ho] at h9
    exact va_tl hx hb h9 r4 hi rfl hd k9
  · have he := dyn_get (tc := tc) (ad := ad) (Nat.le_of_not_lt hz) hlt
    rw [ce_arr (t := 1) ho] at he
    exact va_lald hx hb r1 r2 (a - nZ) 1 he rfl hi hd k9
theorem X_aaldS {a n : Nat} {i : Int32} (hd : decode M.2.1 pc = .ok (.aaload, 1)) (ho : mS h a = (105, n)) (hi : vp_in i n) (kk : X M lv K T rc rs (pc + 1) ls (.ref (mR h a i.toNatClampNeg) :: st) h) : X M lv K T rc rs pc ls (.int i :: .ref a :: st) h := by
  intro p l e R s m args below meth cc D tc A n0 ad0 h0 Q ad H locs cells slots la C hR hE hst hls hla hc hs eR eT
  obtain ⟨hx, hb, hml, hret, hts, hown, hlk, htab, hns, hini, hfr, hlo⟩ := id C
  obtain ⟨r1, r2, r3, r4, r5, r6, r7⟩ := id hR
  have hne := r7.ne0 ho (by decide)
  have hlt := r7.lt ho (by decide)
  have k9 := kk p l e R s m args below meth cc D tc A n0 ad0 h0 Q ad H locs cells slots la C hR hE (List.forall_mem_cons.mpr ⟨r7.2.1 a _, (fun v hv => hst v (List.mem_cons_of_mem _ (List.mem_cons_of_mem _ hv)))⟩) hls hla hc hs eR eT
  rw [List.map_cons, List.map_cons, cv_ref hne]
  rw [List.map_cons] at k9
  rw [cv_rf] at k9
  by_cases hz : a < nZ
  · have h9 := (r5.1 a hz).2 (by rw [ho]; exact (show (100 : Nat) ≤ 100 + 5 by decide))
    rw [ho] at h9
    exact vb_tq hx hb h9 r4 hi (cv_rf ad _) hd k9
  · have he := dyn_get (tc := tc) (ad := ad) (Nat.le_of_not_lt hz) hlt
    rw [ce_arr (t := 5) ho] at he
    exact va_aldq hx hb r1 r2 (a - nZ) 5 he rfl hi hd k9
theorem X_aaldT {a n : Nat} {i : Int32} (hd : decode M.2.1 pc = .ok (.aaload, 1)) (ho : mS h a = (106, n)) (hi : vp_in i n) (kk : X M lv K T rc rs (pc + 1) ls (.ref (mR h a i.toNatClampNeg) :: st) h) : X M lv K T rc rs pc ls (.int i :: .ref a :: st) h := by
  intro p l e R s m args below meth cc D tc A n0 ad0 h0 Q ad H locs cells slots la C hR hE hst hls hla hc hs eR eT
  obtain ⟨hx, hb, hml, hret, hts, hown, hlk, htab, hns, hini, hfr, hlo⟩ := id C
  obtain ⟨r1, r2, r3, r4, r5, r6, r7⟩ := id hR
  have hne := r7.ne0 ho (by decide)
  have hlt := r7.lt ho (by decide)
  have k9 := kk p l e R s m args below meth cc D tc A n0 ad0 h0 Q ad H locs cells slots la C hR hE (List.forall_mem_cons.mpr ⟨r7.2.1 a _, (fun v hv => hst v (List.mem_cons_of_mem _ (List.mem_cons_of_mem _ hv)))⟩) hls hla hc hs eR eT
  rw [List.map_cons, List.map_cons, cv_ref hne]
  rw [List.map_cons] at k9
  rw [cv_rf] at k9
  by_cases hz : a < nZ
  · have h9 := (r5.1 a hz).2 (by rw [ho]; exact (show (100 : Nat) ≤ 100 + 6 by decide))
    rw [ho] at h9
    exact vb_tq hx hb h9 r4 hi (cv_rf ad _) hd k9
  · have he := dyn_get (tc := tc) (ad := ad) (Nat.le_of_not_lt hz) hlt
    rw [ce_arr (t := 6) ho] at he
    exact va_aldq hx hb r1 r2 (a - nZ) 6 he rfl hi hd k9
theorem X_aaldC {a n : Nat} {i : Int32} (hd : decode M.2.1 pc = .ok (.aaload, 1)) (ho : mS h a = (107, n)) (hi : vp_in i n) (kk : X M lv K T rc rs (pc + 1) ls (.ref (mR h a i.toNatClampNeg) :: st) h) : X M lv K T rc rs pc ls (.int i :: .ref a :: st) h := by
  intro p l e R s m args below meth cc D tc A n0 ad0 h0 Q ad H locs cells slots la C hR hE hst hls hla hc hs eR eT
  obtain ⟨hx, hb, hml, hret, hts, hown, hlk, htab, hns, hini, hfr, hlo⟩ := id C
  obtain ⟨r1, r2, r3, r4, r5, r6, r7⟩ := id hR
  have hne := r7.ne0 ho (by decide)
  have hlt := r7.lt ho (by decide)
  have k9 := kk p l e R s m args below meth cc D tc A n0 ad0 h0 Q ad H locs cells slots la C hR hE (List.forall_mem_cons.mpr ⟨r7.2.1 a _, (fun v hv => hst v (List.mem_cons_of_mem _ (List.mem_cons_of_mem _ hv)))⟩) hls hla hc hs eR eT
  rw [List.map_cons, List.map_cons, cv_ref hne]
  rw [List.map_cons] at k9
  rw [cv_rf] at k9
  by_cases hz : a < nZ
  · have h9 := (r5.1 a hz).2 (by rw [ho]; exact (show (100 : Nat) ≤ 100 + 7 by decide))
    rw [ho] at h9
    exact vb_tq hx hb h9 r4 hi (cv_rf ad _) hd k9
  · have he := dyn_get (tc := tc) (ad := ad) (Nat.le_of_not_lt hz) hlt
    rw [ce_arr (t := 7) ho] at he
    exact va_aldq hx hb r1 r2 (a - nZ) 7 he rfl hi hd k9
theorem X_aaldA {a n : Nat} {i : Int32} (hd : decode M.2.1 pc = .ok (.aaload, 1)) (ho : mS h a = (108, n)) (hz : nZ ≤ a) (hi : vp_in i n) (kk : X M lv K T rc rs (pc + 1) ls (.ref (mR h a i.toNatClampNeg) :: st) h) : X M lv K T rc rs pc ls (.int i :: .ref a :: st) h := by
  intro p l e R s m args below meth cc D tc A n0 ad0 h0 Q ad H locs cells slots la C hR hE hst hls hla hc hs eR eT
  obtain ⟨hx, hb, hml, hret, hts, hown, hlk, htab, hns, hini, hfr, hlo⟩ := id C
  obtain ⟨r1, r2, r3, r4, r5, r6, r7⟩ := id hR
  have hne := r7.ne0 ho (by decide)
  have hlt := r7.lt ho (by decide)
  have k9 := kk p l e R s m args below meth cc D tc A n0 ad0 h0 Q ad H locs cells slots la C hR hE (List.forall_mem_cons.mpr ⟨r7.2.1 a _, (fun v hv => hst v (List.mem_cons_of_mem _ (List.mem_cons_of_mem _ hv)))⟩) hls hla hc hs eR eT
  rw [List.map_cons, List.map_cons, cv_ref hne]
  rw [List.map_cons, cv_rf] at k9
  have he := dyn_get (tc := tc) (ad := ad) hz hlt
  rw [ce_arr (t := 8) ho] at he
  have he : (dyn tc ad h)[a - nZ]? = some (ad a, .inl (tc 8, (n, .inr (.inr (.inr (.inr (fun i => rf ad (mR h a i)))))))) := he
  have hlt2 : i.toNatClampNeg < n := Nat.not_le.mp fun q => hi (Or.inr q)
  have ht : (tys tc)[8]? = some (tc 8, .array .int) := rfl
  exact W.aald (v := va_rf (rf ad (mR h a i.toNatClampNeg))) (ty := .array .int) hx hb (r2 (a - nZ) _ he) ((r1.2 8 _ ht).1 n (fun j => va_rf (rf ad (mR h a j)))) rfl (fun q => by cases q) (by show ¬ (i < 0 ∨ (arrV _ _ _).slots.size ≤ _); rw [arrV_size]; exact hi) (by show (arrV _ _ _).slots[_]? = _; rw [arrV_read _ _ hlt2]) rfl rfl hd k9
theorem X_alen {a t n : Nat} {v : Int32} (hd : decode M.2.1 pc = .ok (.arraylength, 1)) (ht9 : t < 9) (ho : mS h a = (100 + t, n)) (hv : Int32.ofNat n = v) (kk : X M lv K T rc rs (pc + 1) ls (.int v :: st) h) : X M lv K T rc rs pc ls (.ref a :: st) h := by
  intro p l e R s m args below meth cc D tc A n0 ad0 h0 Q ad H locs cells slots la C hR hE hst hls hla hc hs eR eT
  obtain ⟨hx, hb, hml, hret, hts, hown, hlk, htab, hns, hini, hfr, hlo⟩ := id C
  obtain ⟨r1, r2, r3, r4, r5, r6, r7⟩ := id hR
  have hne := r7.ne0 ho (by omega)
  have hlt := r7.lt ho (by omega)
  have k9 := kk p l e R s m args below meth cc D tc A n0 ad0 h0 Q ad H locs cells slots la C hR hE (List.forall_mem_cons.mpr ⟨trivial, (fun v hv => hst v (List.mem_cons_of_mem _ hv))⟩) hls hla hc hs eR eT
  rw [List.map_cons, cv_ref hne]
  by_cases hz : a < nZ
  · have h9 := (r5.1 a hz).2 (by rw [ho]; exact Nat.le_add_right 100 t)
    rw [ho] at h9
    exact va_tlen hx hb h9 r4 hv hd k9
  · have he := dyn_get (tc := tc) (ad := ad) (Nat.le_of_not_lt hz) hlt
    rw [ce_arr ho] at he
    have ht : (tys tc)[t]? = some (tc t, ty_ t) := by
      unfold tys
      rw [List.getElem?_map, List.getElem?_range ht9]
      rfl
    exact va_alen hx hb r1 r2 (a - nZ) t he ht hv hd k9
theorem X_iast {a n : Nat} {i : Int32} {x : Int32} (hd : decode M.2.1 pc = .ok (.iastore, 1)) (ho : mS h a = (100, n)) (hz : nZ ≤ a) (hi : vp_in i n) (kk : X M lv K T rc rs (pc + 1) ls st (uI h a i.toNatClampNeg x)) : X M lv K T rc rs pc ls (.int x :: .int i :: .ref a :: st) h := by
  intro p l e R s m args below meth cc D tc A n0 ad0 h0 Q ad H locs cells slots la C hR hE hst hls hla hc hs eR eT
  obtain ⟨hx, hb, hml, hret, hts, hown, hlk, htab, hns, hini, hfr, hlo⟩ := id C
  obtain ⟨r1, r2, r3, r4, r5, r6, r7⟩ := id hR
  have hne := r7.ne0 ho (by decide)
  have hlt := r7.lt ho (by decide)
  rw [List.map_cons, List.map_cons, List.map_cons, cv_ref hne]
  have he := dyn_get (tc := tc) (ad := ad) hz hlt
  rw [ce_arr (t := 0) ho] at he
  refine va_iast hx hb r1 r2 r3 r4 (a - nZ) 0 he rfl hi hd (fun H1 locs1 hP hD hS1 => ?_)
  have hR1 : Rel D tc A ad (uI h a i.toNatClampNeg x) s H1 locs1 := hR.put hP hD hS1 (by
    rw [ce_arr (t := 0) (h := uI h a i.toNatClampNeg x) (a := a) (n := n) ho]
    unfold ar_
    simp only [show ¬ (0 : Nat) = 1 by decide, show ¬ (0 : Nat) = 2 by decide, show ¬ 5 ≤ (0 : Nat) by decide, if_false]
    refine congrArg (fun f => (Sum.inl (tc 0, n, Sum.inl f) : va_E)) (funext fun z => ?_)
    simp only [upd, mI_uI, true_and]) rfl hz hlt (fun b hb => ce_uI hb) (r7.uI a _ _) (sameS.uI hz _ _)
  exact kk p l e R s m args below meth cc D tc A n0 ad0 h0 Q ad H1 locs1 cells slots la C hR1 (hE.put rfl (sameS.uI hz _ _)) (fun v hv => hst v (List.mem_cons_of_mem _ (List.mem_cons_of_mem _ (List.mem_cons_of_mem _ hv)))) hls hla hc hs eR eT
theorem X_bast {a n : Nat} {i : Int32} {x : Int32} (hd : decode M.2.1 pc = .ok (.bastore, 1)) (ho : mS h a = (103, n)) (hz : nZ ≤ a) (hi : vp_in i n) (kk : X M lv K T rc rs (pc + 1) ls st (uI h a i.toNatClampNeg (vp_nar .byte x))) : X M lv K T rc rs pc ls (.int x :: .int i :: .ref a :: st) h := by
  intro p l e R s m args below meth cc D tc A n0 ad0 h0 Q ad H locs cells slots la C hR hE hst hls hla hc hs eR eT
  obtain ⟨hx, hb, hml, hret, hts, hown, hlk, htab, hns, hini, hfr, hlo⟩ := id C
  obtain ⟨r1, r2, r3, r4, r5, r6, r7⟩ := id hR
  have hne := r7.ne0 ho (by decide)
  have hlt := r7.lt ho (by decide)
  rw [List.map_cons, List.map_cons, List.map_cons, cv_ref hne]
  have he := dyn_get (tc := tc) (ad := ad) hz hlt
  rw [ce_arr (t := 3) ho] at he
  refine va_bast hx hb r1 r2 r3 r4 (a - nZ) 3 he rfl hi hd (fun H1 locs1 hP hD hS1 => ?_)
  have hR1 : Rel D tc A ad (uI h a i.toNatClampNeg (vp_nar .byte x)) s H1 locs1 := hR.put hP hD hS1 (by
    rw [ce_arr (t := 3) (h := uI h a i.toNatClampNeg (vp_nar .byte x)) (a := a) (n := n) ho]
    unfold ar_
    simp only [show ¬ (3 : Nat) = 1 by decide, show ¬ (3 : Nat) = 2 by decide, show ¬ 5 ≤ (3 : Nat) by decide, if_false]
    refine congrArg (fun f => (Sum.inl (tc 3, n, Sum.inl f) : va_E)) (funext fun z => ?_)
    simp only [upd, mI_uI, true_and]) rfl hz hlt (fun b hb => ce_uI hb) (r7.uI a _ _) (sameS.uI hz _ _)
  exact kk p l e R s m args below meth cc D tc A n0 ad0 h0 Q ad H1 locs1 cells slots la C hR1 (hE.put rfl (sameS.uI hz _ _)) (fun v hv => hst v (List.mem_cons_of_mem _ (List.mem_cons_of_mem _ (List.mem_cons_of_mem _ hv)))) hls hla hc hs eR eT
theorem X_cast {a n : Nat} {i : Int32} {x : Int32} (hd : decode M.2.1 pc = .ok (.castore, 1)) (ho : mS h a = (104, n)) (hz : nZ ≤ a) (hi : vp_in i n) (kk : X M lv K T rc rs (pc + 1) ls st (uI h a i.toNatClampNeg (vp_nar .char x))) : X M lv K T rc rs pc ls (.int x :: .int i :: .ref a :: st) h := by
  intro p l e R s m args below meth cc D tc A n0 ad0 h0 Q ad H locs cells slots la C hR hE hst hls hla hc hs eR eT
  obtain ⟨hx, hb, hml, hret, hts, hown, hlk, htab, hns, hini, hfr, hlo⟩ := id C
  obtain ⟨r1, r2, r3, r4, r5, r6, r7⟩ := id hR
  have hne := r7.ne0 ho (by decide)
  have hlt := r7.lt ho (by decide)
  rw [List.map_cons, List.map_cons, List.map_cons, cv_ref hne]
  have he := dyn_get (tc := tc) (ad := ad) hz hlt
  rw [ce_arr (t := 4) ho] at he
  refine va_cast hx hb r1 r2 r3 r4 (a - nZ) 4 he rfl hi hd (fun H1 locs1 hP hD hS1 => ?_)
  have hR1 : Rel D tc A ad (uI h a i.toNatClampNeg (vp_nar .char x)) s H1 locs1 := hR.put hP hD hS1 (by
    rw [ce_arr (t := 4) (h := uI h a i.toNatClampNeg (vp_nar .char x)) (a := a) (n := n) ho]
    unfold ar_
    simp only [show ¬ (4 : Nat) = 1 by decide, show ¬ (4 : Nat) = 2 by decide, show ¬ 5 ≤ (4 : Nat) by decide, if_false]
    refine congrArg (fun f => (Sum.inl (tc 4, n, Sum.inl f) : va_E)) (funext fun z => ?_)
    simp only [upd, mI_uI, true_and]) rfl hz hlt (fun b hb => ce_uI hb) (r7.uI a _ _) (sameS.uI hz _ _)
  exact kk p l e R s m args below meth cc D tc A n0 ad0 h0 Q ad H1 locs1 cells slots la C hR1 (hE.put rfl (sameS.uI hz _ _)) (fun v hv => hst v (List.mem_cons_of_mem _ (List.mem_cons_of_mem _ (List.mem_cons_of_mem _ hv)))) hls hla hc hs eR eT
theorem X_last {a n : Nat} {i : Int32} {x : Int64} (hd : decode M.2.1 pc = .ok (.lastore, 1)) (ho : mS h a = (101, n)) (hz : nZ ≤ a) (hi : vp_in i n) (kk : X M lv K T rc rs (pc + 1) ls st (uL h a i.toNatClampNeg x)) : X M lv K T rc rs pc ls (.long x :: .int i :: .ref a :: st) h := by
  intro p l e R s m args below meth cc D tc A n0 ad0 h0 Q ad H locs cells slots la C hR hE hst hls hla hc hs eR eT
  obtain ⟨hx, hb, hml, hret, hts, hown, hlk, htab, hns, hini, hfr, hlo⟩ := id C
  obtain ⟨r1, r2, r3, r4, r5, r6, r7⟩ := id hR
  have hne := r7.ne0 ho (by decide)
  have hlt := r7.lt ho (by decide)
  rw [List.map_cons, List.map_cons, List.map_cons, cv_ref hne]
  have he := dyn_get (tc := tc) (ad := ad) hz hlt
  rw [ce_arr (t := 1) ho] at he
  refine va_last hx hb r1 r2 r3 r4 (a - nZ) 1 he rfl hi hd (fun H1 locs1 hP hD hS1 => ?_)
  have hR1 : Rel D tc A ad (uL h a i.toNatClampNeg x) s H1 locs1 := hR.put hP hD hS1 (by
    rw [ce_arr (t := 1) (h := uL h a i.toNatClampNeg x) (a := a) (n := n) ho]
    unfold ar_
    simp only [if_true]
    refine congrArg (fun f => (Sum.inl (tc 1, n, Sum.inr (Sum.inl f)) : va_E)) (funext fun z => ?_)
    simp only [vp_updL, mL_uL, true_and]) rfl hz hlt (fun b hb => ce_uL hb) (r7.uL a _ _) (sameS.uL hz _ _)
  exact kk p l e R s m args below meth cc D tc A n0 ad0 h0 Q ad H1 locs1 cells slots la C hR1 (hE.put rfl (sameS.uL hz _ _)) (fun v hv => hst v (List.mem_cons_of_mem _ (List.mem_cons_of_mem _ (List.mem_cons_of_mem _ hv)))) hls hla hc hs eR eT
theorem X_aastS {a n b : Nat} {i : Int32} (hd : decode M.2.1 pc = .ok (.aastore, 1)) (ho : mS h a = (105, n)) (hob : mS h b = (6, 0)) (hz : nZ ≤ a) (hi : vp_in i n) (kk : X M lv K T rc rs (pc + 1) ls st (uR h a i.toNatClampNeg b)) : X M lv K T rc rs pc ls (.ref b :: .int i :: .ref a :: st) h := by
  intro p l e R s m args below meth cc D tc A n0 ad0 h0 Q ad H locs cells slots la C hR hE hst hls hla hc hs eR eT
  obtain ⟨hx, hb, hml, hret, hts, hown, hlk, htab, hns, hini, hfr, hlo⟩ := id C
  obtain ⟨r1, r2, r3, r4, r5, r6, r7⟩ := id hR
  have hne := r7.ne0 ho (by decide)
  have hlt := r7.lt ho (by decide)
  obtain ⟨hzb, hltb⟩ := r7.dynz hob (by decide) (by decide)
  rw [List.map_cons, List.map_cons, List.map_cons, cv_ref hne, cv_ref (nz_ne hzb)]
  have he := dyn_get (tc := tc) (ad := ad) hz hlt
  rw [ce_arr (t := 5) ho] at he
  have heb := dyn_get (tc := tc) (ad := ad) hzb hltb
  rw [ce_obj (ci := 5) hob (by decide)] at heb
  refine va_astq hx hb r1 r2 r3 r4 (a - nZ) 5 (b - nZ) 5 he rfl heb rfl hi hd (fun H1 locs1 hP hD hS1 => ?_)
  have hR1 : Rel D tc A ad (uR h a i.toNatClampNeg b) s H1 locs1 := hR.put hP hD hS1 (by
    rw [ce_arr (t := 5) (h := uR h a i.toNatClampNeg b) (a := a) (n := n) ho]
    unfold ar_
    simp only [show ¬ (5 : Nat) = 1 by decide, show ¬ (5 : Nat) = 2 by decide, show 5 ≤ (5 : Nat) by decide, if_false, if_true]
    refine congrArg (fun f => (Sum.inl (tc 5, n, Sum.inr (Sum.inr (Sum.inr (Sum.inr f)))) : va_E)) (funext fun z => ?_)
    simp only [va_up, mR_uR, true_and]
    split
    · unfold rf
      rw [if_neg (nz_ne hzb)]
    · rfl) rfl hz hlt (fun b hb => ce_uR hb) (r7.uR a _ hltb) (sameS.uR hz _ _)
  exact kk p l e R s m args below meth cc D tc A n0 ad0 h0 Q ad H1 locs1 cells slots la C hR1 (hE.put rfl (sameS.uR hz _ _)) (fun v hv => hst v (List.mem_cons_of_mem _ (List.mem_cons_of_mem _ (List.mem_cons_of_mem _ hv)))) hls hla hc hs eR eT
theorem X_aastT {a n b : Nat} {i : Int32} (hd : decode M.2.1 pc = .ok (.aastore, 1)) (ho : mS h a = (106, n)) (hob : mS h b = (7, 0)) (hz : nZ ≤ a) (hi : vp_in i n) (kk : X M lv K T rc rs (pc + 1) ls st (uR h a i.toNatClampNeg b)) : X M lv K T rc rs pc ls (.ref b :: .int i :: .ref a :: st) h := by
  intro p l e R s m args below meth cc D tc A n0 ad0 h0 Q ad H locs cells slots la C hR hE hst hls hla hc hs eR eT
  obtain ⟨hx, hb, hml, hret, hts, hown, hlk, htab, hns, hini, hfr, hlo⟩ := id C
  obtain ⟨r1, r2, r3, r4, r5, r6, r7⟩ := id hR
  have hne := r7.ne0 ho (by decide)
  have hlt := r7.lt ho (by decide)
  obtain ⟨hzb, hltb⟩ := r7.dynz hob (by decide) (by decide)
  rw [List.map_cons, List.map_cons, List.map_cons, cv_ref hne, cv_ref (nz_ne hzb)]
  have he := dyn_get (tc := tc) (ad := ad) hz hlt
  rw [ce_arr (t := 6) ho] at he
  have heb := dyn_get (tc := tc) (ad := ad) hzb hltb
  rw [ce_obj (ci := 6) hob (by decide)] at heb
  refine va_astq hx hb r1 r2 r3 r4 (a - nZ) 6 (b - nZ) 6 he rfl heb rfl hi hd (fun H1 locs1 hP hD hS1 => ?_)
  have hR1 : Rel D tc A ad (uR h a i.toNatClampNeg b) s H1 locs1 := hR.put hP hD hS1 (by
    rw [ce_arr (t := 6) (h := uR h a i.toNatClampNeg b) (a := a) (n := n) ho]
    unfold ar_
    simp only [show ¬ (6 : Nat) = 1 by decide, show ¬ (6 : Nat) = 2 by decide, show 5 ≤ (6 : Nat) by decide, if_false, if_true]
    refine congrArg (fun f => (Sum.inl (tc 6, n, Sum.inr (Sum.inr (Sum.inr (Sum.inr f)))) : va_E)) (funext fun z => ?_)
    simp only [va_up, mR_uR, true_and]
    split
    · unfold rf
      rw [if_neg (nz_ne hzb)]
    · rfl) rfl hz hlt (fun b hb => ce_uR hb) (r7.uR a _ hltb) (sameS.uR hz _ _)
  exact kk p l e R s m args below meth cc D tc A n0 ad0 h0 Q ad H1 locs1 cells slots la C hR1 (hE.put rfl (sameS.uR hz _ _)) (fun v hv => hst v (List.mem_cons_of_mem _ (List.mem_cons_of_mem _ (List.mem_cons_of_mem _ hv)))) hls hla hc hs eR eT
theorem X_aastC {a n b : Nat} {i : Int32} (hd : decode M.2.1 pc = .ok (.aastore, 1)) (ho : mS h a = (107, n)) (hob : mS h b = (21, 0)) (hzb : b < nZ) (hz : nZ ≤ a) (hi : vp_in i n) (kk : X M lv K T rc rs (pc + 1) ls st (uR h a i.toNatClampNeg b)) : X M lv K T rc rs pc ls (.ref b :: .int i :: .ref a :: st) h := by
  intro p l e R s m args below meth cc D tc A n0 ad0 h0 Q ad H locs cells slots la C hR hE hst hls hla hc hs eR eT
  obtain ⟨hx, hb, hml, hret, hts, hown, hlk, htab, hns, hini, hfr, hlo⟩ := id C
  obtain ⟨r1, r2, r3, r4, r5, r6, r7⟩ := id hR
  have hne := r7.ne0 ho (by decide)
  have hlt := r7.lt ho (by decide)
  have hneb := r7.ne0 hob (by decide)
  rw [List.map_cons, List.map_cons, List.map_cons, cv_ref hne, cv_ref hneb]
  have he := dyn_get (tc := tc) (ad := ad) hz hlt
  rw [ce_arr (t := 7) ho] at he
  obtain ⟨cellV, g1, g2, g3, -⟩ := ((r5.1 b hzb).1 (by rw [hob]; exact Or.inr rfl)).1.kept r4.2.1
  rw [hob] at g3
  have g4 : s.vm.findClass RX1 = some cellV.cls := g3
  obtain ⟨kC, hkC, -⟩ := Vm.findClass_spec g4
  have hany : va_Any RX1 s H (ad b) := ⟨cellV, g1, g2, ⟨kC, hkC⟩, fun comp h => by
    rw [g4] at h
    cases h
    exact va_asg _ _⟩
  have key : ∀ (H1 : Heap) (locs1 : List Loc), va_P D CL ((dyn tc ad h).set (a - nZ) (ad a, .inl (tc 7, n, .inr (.inr (.inr (.inr (va_up (fun i => rf ad (mR h a i)) i.toNatClampNeg (some (ad b))))))))) H1 → va_D A ((dyn tc ad h).set (a - nZ) (ad a, .inl (tc 7, n, .inr (.inr (.inr (.inr (va_up (fun i => rf ad (mR h a i)) i.toNatClampNeg (some (ad b))))))))) → va_S A s.heap H1 locs1 → W p l e R s m args below meth cc H1 locs1 cells slots Q (F0 m (pc + 1) la (st.map (cv ad))) := by
    intro H1 locs1 hP hD hS1
    have hR1 : Rel D tc A ad (uR h a i.toNatClampNeg b) s H1 locs1 := hR.put hP hD hS1 (by
      rw [ce_arr (t := 7) (h := uR h a i.toNatClampNeg b) (a := a) (n := n) ho]
      unfold ar_
      simp only [show ¬ (7 : Nat) = 1 by decide, show ¬ (7 : Nat) = 2 by decide, show 5 ≤ (7 : Nat) by decide, if_false, if_true]
      refine congrArg (fun f => (Sum.inl (tc 7, n, Sum.inr (Sum.inr (Sum.inr (Sum.inr f)))) : va_E)) (funext fun z => ?_)
      simp only [va_up, mR_uR, true_and]
      split
      · unfold rf
        rw [if_neg hneb]
      · rfl) rfl hz hlt (fun b hb => ce_uR hb) (r7.uR a _ (Nat.lt_of_lt_of_le hzb r7.1)) (sameS.uR hz _ _)
    exact kk p l e R s m args below meth cc D tc A n0 ad0 h0 Q ad H1 locs1 cells slots la C hR1 (hE.put rfl (sameS.uR hz _ _)) (fun v hv => hst v (List.mem_cons_of_mem _ (List.mem_cons_of_mem _ (List.mem_cons_of_mem _ hv)))) hls hla hc hs eR eT
  exact va_astqM hx hb r1 r2 r3 r4 (a - nZ) 7 he rfl hany hi hd key
end AR
