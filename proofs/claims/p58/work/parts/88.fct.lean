/-! WHAT A CALL OF THE LAW'S LEAVES, CASE BY CASE -/
section FCT
variable {h g : AH} {X X' : BG} {A : AG} {w L : Nat} {t : TG}
theorem qGo_q : ∀ (Q : List Nat) (A : AG), (qGo A Q).2.length ≤ Q.length ∧ aO (qGo A Q).1 = aO A := by
  intro Q
  induction Q with
  | nil => intro A; exact ⟨Nat.le_refl _, rfl⟩
  | cons q Q ih =>
    intro A
    unfold qGo
    cases hf : fnd A (nI q) with
    | none =>
      have := ih A
      simp only [List.length_cons]
      exact ⟨by omega, this.2⟩
    | some t =>
      simp only [List.length_cons]
      by_cases e : can A t = true
      · rw [if_pos e]
        have h1 := ih (setT A t)
        exact ⟨by omega, h1.2⟩
      · rw [if_neg e]
        have h1 := ih (let A1 := upT A q (fun u => (tn u, tb u, td u, tr u, tu u, tl u + 1)); (aL A1, aT A1, aQ A1, aC A1, aO A1, aM A1, aD A1 + 1))
        exact ⟨Nat.succ_le_succ h1.1, h1.2⟩
theorem min1_q (A : AG) : (aQ (min1 A)).length ≤ (aQ A).length ∧ aO A ≤ aO (min1 A) := by
  refine ⟨(qGo_q (aQ A) (mnt A)).1, ?_⟩
  show aO A ≤ aO (qGo (mnt A) (aQ A)).1
  rw [(qGo_q _ _).2]
  exact Nat.le_add_right _ _
theorem mins_q : ∀ (k : Nat) (A : AG), aO A ≤ aO (mins k A) ∧ aD A ≤ aD (mins k A) ∧ aD (mins k A) ≤ aD A + (aQ A).length * k := by
  intro k
  induction k with
  | zero => intro A; exact ⟨Nat.le_refl _, Nat.le_refl _, Nat.le_refl _⟩
  | succ k ih =>
    intro A
    obtain ⟨a1, a2⟩ := min1_q A
    obtain ⟨-, -, m3, m4⟩ := min1_s A
    obtain ⟨i2, i3, i4⟩ := ih (min1 A)
    have hk : (aQ (min1 A)).length * k ≤ (aQ A).length * k := Nat.mul_le_mul_right k a1
    refine ⟨Nat.le_trans a2 i2, Nat.le_trans m3 i3, ?_⟩
    show aD (mins k (min1 A)) ≤ aD A + (aQ A).length * (k + 1)
    rw [Nat.mul_succ]
    omega
theorem min1_n {u : TG} (hu : u ∈ aT (min1 A)) : ∃ v ∈ aT A, tn v = tn u := by
  have h1 : tn u ∈ (aT (mnt A)).map tn := by
    rw [← (qGo_n (aQ A) (mnt A)).1]
    exact List.mem_map.mpr ⟨u, hu, rfl⟩
  obtain ⟨v, hv, e3⟩ := List.mem_map.mp h1
  obtain ⟨v1, -⟩ := List.mem_filter.mp hv
  obtain ⟨s, hs, e4⟩ := List.mem_map.mp v1
  exact ⟨s, hs, by rw [← e3, ← e4, (ent_n _ _ _).1]⟩
theorem mins_n : ∀ (k : Nat) (A : AG) (u : TG), u ∈ aT (mins k A) → ∃ v ∈ aT A, tn v = tn u := by
  intro k
  induction k with
  | zero => intro A u hu; exact ⟨u, hu, rfl⟩
  | succ k ih =>
    intro A u hu
    obtain ⟨v, hv, e⟩ := ih (min1 A) u hu
    obtain ⟨s, hs, e2⟩ := min1_n hv
    exact ⟨s, hs, e2.trans e⟩
theorem min1_b (k : GK A) (bn : BN A) (ht : t ∈ aT A) (hr : tr t ≠ []) (e : tu t ≠ aM A + 1) : t ∈ aT (min1 A) := by
  have k3 := (k.2.2.2.1 t ht).2.2.1
  have hnq : ∀ q ∈ aQ A, q ≠ tn t := fun q hq e => by
    obtain ⟨u, hu, e1, e2⟩ := (k.2.2.2.2.2.2.1 q).mp hq
    have := k.2.2.tu ht hu (e1.trans e)
    subst this
    exact hr e2
  have hnb : ∀ u ∈ aT A, tn u < 2 ^ 31 := fun u hu => by
    have := (k.2.2.2.1 u hu).2.2.2.1
    have := bn.1
    omega
  have hqb : ∀ q ∈ aQ A, q < 2 ^ 31 := fun q hq => by
    obtain ⟨u, hu, e1, -⟩ := (k.2.2.2.2.2.2.1 q).mp hq
    have := hnb u hu
    omega
  have hmn : ∀ n ∈ (aT (mnt A)).map tn, n < 2 ^ 31 := fun n hn => by
    obtain ⟨u, hu, e⟩ := List.mem_map.mp hn
    obtain ⟨v, hv, e2⟩ := List.mem_map.mp (List.mem_filter.mp hu).1
    have := hnb v hv
    rw [← e, ← e2, (ent_n _ _ _).1]
    exact this
  have he : ent (aL A) (aM A + 1) t = t := by
    unfold ent
    cases hc : tr t with
    | nil => rfl
    | cons c l =>
      simp only
      rw [if_neg e]
  exact qGo_k (aQ A) (mnt A) (List.mem_filter.mpr ⟨List.mem_map.mpr ⟨t, ht, he⟩, decide_eq_true k3⟩) hnq hqb hmn
theorem mins_r : ∀ (k : Nat) (A : AG) (t : TG), GK A → aC A < 9000 ∧ aM A + k < 2000000 ∧ aD A + 8 * k < 16000000 → t ∈ aT A → tr t ≠ [] → (rem A t ≤ k → ∀ u ∈ aT (mins k A), tn u ≠ tn t) ∧ (k < rem A t → ∃ u ∈ aT (mins k A), tn u = tn t ∧ tr u ≠ [] ∧ rem (mins k A) u + k = rem A t) ∧ (aM A + k < tu t → t ∈ aT (mins k A)) := by
  intro k
  induction k with
  | zero =>
    intro A t gk hb ht hr
    have r1 := (min1_r gk ⟨hb.1, by omega, by omega⟩ ht hr).1
    exact ⟨fun z => by omega, fun _ => ⟨t, ht, rfl, hr, rfl⟩, fun _ => ht⟩
  | succ k ih =>
    intro A t gk hb ht hr
    obtain ⟨b1, b2, b3⟩ := hb
    have bn : BN A := ⟨b1, by omega, by omega⟩
    obtain ⟨r1, r2, r3⟩ := min1_r gk bn ht hr
    obtain ⟨s1, s2, s3, s4⟩ := min1_s A
    have q8 := gk.2.2.q8
    have gk' := gk_min1 gk (show aC A < 2 ^ 31 by omega)
    have hb' : aC (min1 A) < 9000 ∧ aM (min1 A) + k < 2000000 ∧ aD (min1 A) + 8 * k < 16000000 := ⟨by omega, by omega, by omega⟩
    refine ⟨fun hle => ?_, fun hlt => ?_, fun hbl => ?_⟩
    · by_cases e : rem A t = 1
      · intro u hu
        obtain ⟨v, hv, ev⟩ := mins_n k (min1 A) u hu
        rw [← ev]
        exact r2 e v hv
      · obtain ⟨u0, hu0, e1, e2, e3⟩ := r3 e
        have := (ih (min1 A) u0 gk' hb' hu0 e2).1 (by omega)
        rw [e1] at this
        exact this
    · obtain ⟨u0, hu0, e1, e2, e3⟩ := r3 (by omega)
      obtain ⟨u, hu, q1, q2, q3⟩ := (ih (min1 A) u0 gk' hb' hu0 e2).2.1 (by omega)
      exact ⟨u, hu, q1.trans e1, q2, by show rem (mins k (min1 A)) u + (k + 1) = _; omega⟩
    · exact (ih (min1 A) t gk' hb' (min1_b gk bn ht hr (by omega)) hr).2.2 (by omega)
theorem pass_ok {m : Nat} (h1 : 1 ≤ m) (h6 : m ≤ 6) : oPass A (nI m) = (0, nI (aO (mins m A) - aO A), mins m A) := by
  have e : ¬ (nI m < nI 1 ∨ nI 240 < nI m) := by
    rw [nI_ltI (by omega) (by decide), nI_ltI (by decide) (by omega)]
    omega
  unfold oPass
  rw [if_neg e, nI_clamp (by omega)]
/-- what is asked ahead of a call -/
def Bf (A : AG) (o : Option TG) (v x12 x13 x15 x16 x23 x25 : Int32) : Prop := fnd A v = o ∧ match o with
  | none => x12 = -75 ∧ x13 = -75 ∧ x15 = -75 ∧ x16 = -75 ∧ x23 = -1 ∧ x25 = -75
  | some t => t ∈ aT A ∧ v = nI (tn t) ∧ x12 = (if tr t = [] then nI 0 else nI 1) ∧ x13 = (if can A t = true then nI 1 else nI 0) ∧ x15 = (if tr t = [] then -75 else nI (rem A t)) ∧ x16 = (if tr t = [] then -75 else nI (tu t - aM A)) ∧ x23 = nI (tb t) ∧ x25 = (if rtT A t = [] then -75 else nI (sl (aL A) (rtT A t)))
theorem n01 : ¬ nI 0 = nI 1 ∧ ¬ (-75 : Int32) = nI 1 ∧ ¬ nI 0 ≤ (-75 : Int32) ∧ ¬ (-79 : Int32) = -75 ∧ ¬ (-76 : Int32) = -75 ∧ ¬ (-76 : Int32) = -79 := by decide
theorem f_pass (gk : GK A) (bw : BW w A) (hw : w ≤ 6000) {o : Option TG} {v x12 x13 x15 x16 x23 x25 : Int32} (bf : Bf A o v x12 x13 x15 x16 x23 x25) {m : Nat} (h1 : 1 ≤ m) (h6 : m ≤ 6) (hx : x12 = nI 1) : (¬ nI m < x15 → fnd (mins m A) v = none) ∧ (nI m < x15 → ∃ u ∈ aT (mins m A), v = nI (tn u) ∧ tr u ≠ [] ∧ nI (rem (mins m A) u) = x15 - nI m ∧ (x16 ≤ nI m ∨ nI (tb u) = x23)) := by
  obtain ⟨b0, bf⟩ := bf
  cases o with
  | none => exact absurd (bf.1.symm.trans hx) n01.2.1
  | some t =>
    obtain ⟨ht, ev, b1, b2, b3, b4, b5, b6⟩ := bf
    have hr : tr t ≠ [] := fun z => by
      rw [if_pos z] at b1
      exact n01.1 (b1.symm.trans hx)
    rw [if_neg hr] at b3 b4
    have r99 := rem_le gk ht hr
    obtain ⟨w1, w2, w3⟩ := bw
    have hC : aC A < 2 ^ 31 := by omega
    obtain ⟨g1, g2, g3, g4⟩ := mins_s m A gk hC
    have bn' : BN (mins m A) := ⟨by omega, by omega, by omega⟩
    obtain ⟨q1, q2, q3⟩ := mins_r m A t gk ⟨by omega, by omega, by omega⟩ ht hr
    have k7 := (gk.2.2.2.1 t ht).2.2.2.2.2.2.1 hr
    have hgl : tu t < 2 ^ 31 := by
      have h5 := (gk.2.2.2.1 t ht).2.2.2.2.1
      cases hc : tr t with
      | nil => exact absurd hc hr
      | cons c l =>
        rw [hc] at k7 h5
        have h9 := (gk.1.2.1 c (h5 c List.mem_cons_self)).2
        have h8 := k7.2.2
        simp only [List.headD_cons] at h8
        omega
    have htn : tn t < 2 ^ 31 := by
      have := (gk.2.2.2.1 t ht).2.2.2.1
      omega
    rw [b3, nI_ltI (by omega) (by omega), b4, nI_leI (by omega) (by omega), ev]
    refine ⟨fun z => fnd_no g1.2.2 bn' htn (q1 (by omega)), fun z => ?_⟩
    obtain ⟨u, hu, e1, e2, e3⟩ := q2 z
    refine ⟨u, hu, by rw [e1], e2, by rw [nI_sub (by omega)]; congr 1; omega, ?_⟩
    by_cases y : tu t - aM A ≤ m
    · exact Or.inl y
    · refine Or.inr ?_
      have := g1.2.2.tu hu (q3 (by omega)) e1.symm
      rw [b5, this]
theorem f_pass2 (gk : GK A) (bw : BW w A) (hw : w ≤ 6000) (m : Nat) (h6 : m ≤ 6) : aM (mins m A) = aM A + m ∧ nI (aO (mins m A)) = nI (aO A) + nI (aO (mins m A) - aO A) ∧ nI (aT (mins m A)).length = nI (aT A).length - nI (aO (mins m A) - aO A) ∧ aD A ≤ aD (mins m A) ∧ aD (mins m A) ≤ aD A + (aQ A).length * m := by
  obtain ⟨w1, w2, w3⟩ := bw
  obtain ⟨g1, g2, g3, g4⟩ := mins_s m A gk (by omega)
  obtain ⟨q1, q2, q3⟩ := mins_q m A
  have e1 := gk.2.2.2.2.2.2.2.1
  have e2 := g1.2.2.2.2.2.2.2.1
  refine ⟨g3, ?_, ?_, q2, q3⟩
  · rw [nI_add]; congr 1; omega
  · rw [nI_sub (by omega)]; congr 1; omega
theorem fl_nd {x : Nat} : ∀ l : List Nat, l.Nodup → x ∈ l → (l.filter (fun q => decide (q ≠ x))).length + 1 = l.length := by
  intro l
  induction l with
  | nil => intro _ h; cases h
  | cons a l ih =>
    intro hn hx
    obtain ⟨n1, n2⟩ := List.nodup_cons.mp hn
    by_cases e : a = x
    · subst e
      rw [List.filter_cons_of_neg (by simp), List.filter_eq_self.mpr (fun y hy => decide_eq_true (p := y ≠ a) (fun z => n1 (z ▸ hy)))]
      rfl
    · rw [List.filter_cons_of_pos (by simpa using e), List.length_cons, List.length_cons, ih n2 ((List.mem_cons.mp hx).resolve_left (fun z => e z.symm))]
theorem f_set (gk : GK A) (ht : t ∈ aT A) (hc : can A t = true) : ∃ u ∈ aT (wQ (setT A t) ((aQ A).filter (fun q => decide (q ≠ tn t)))), tn u = tn t ∧ tr u ≠ [] ∧ can (wQ (setT A t) ((aQ A).filter (fun q => decide (q ≠ tn t)))) u = false ∧ rem (wQ (setT A t) ((aQ A).filter (fun q => decide (q ≠ tn t)))) u = sl (aL A) (rtT A t) ∧ (aQ (wQ (setT A t) ((aQ A).filter (fun q => decide (q ≠ tn t))))).length + 1 = (aQ A).length := by
  obtain ⟨f1, f2, hne, f4, f5, f6, f7⟩ := rt_in gk ht hc
  have hg : gl (tnr (aL A) (tb t) (rtT A t)) = gl (aL A) := (tnr_fix _ _ _).2.1
  refine ⟨(tn t, tb t, td t, rtT A t, aM A + gl (aL A) ((rtT A t).headD 0), tl t), List.mem_map.mpr ⟨t, ht, if_pos rfl⟩, rfl, hne, ?_, ?_, ?_⟩
  · cases hx : can (wQ (setT A t) ((aQ A).filter (fun q => decide (q ≠ tn t)))) (tn t, tb t, td t, rtT A t, aM A + gl (aL A) ((rtT A t).headD 0), tl t) with
    | false => rfl
    | true => exact absurd (can_iff.mp hx).1 hne
  · show aM A + gl (aL A) ((rtT A t).headD 0) - aM A + sl (tnr (aL A) (tb t) (rtT A t)) (rtT A t).tail = sl (aL A) (rtT A t)
    rw [sl_gl hg]
    cases hR : rtT A t with
    | nil => exact absurd hR hne
    | cons c l =>
      show aM A + gl (aL A) c - aM A + sl (aL A) l = gl (aL A) c + sl (aL A) l
      omega
  · exact fl_nd (aQ A) gk.2.2.2.2.2.1 ((gk.2.2.2.2.2.2.1 _).mpr ⟨t, ht, rfl, f7⟩)
theorem f_why (gk : GK A) (ht : t ∈ aT A) (hr : tr t = []) (hc : ¬ can A t = true) : (rtT A t = [] → why A t = (110, none)) ∧ (¬ rtT A t = [] → ∃ b, why A t = (stc A b, some b) ∧ b < gn (aL A) ∧ stc A b ≠ 102) := by
  unfold why
  refine ⟨fun e => by rw [e]; rfl, fun hne => ?_⟩
  cases hf : (rtT A t).find? (fun b => !fre A b) with
  | none =>
    refine absurd (can_iff.mpr ⟨hr, hne, fun b hb => ?_⟩) hc
    have := List.find?_eq_none.mp hf b hb
    simpa using this
  | some b =>
    have hb := List.mem_of_find?_eq_some hf
    have hfr := List.find?_some hf
    obtain ⟨k1, k2, -⟩ := gk.2.2.2.1 t ht
    refine ⟨b, rfl, (rt_len gk k1 k2).2.2 b hb, fun z => ?_⟩
    unfold stc at z
    by_cases a1 : (gh (aL A)).testBit b = true
    · rw [if_pos a1] at z; exact absurd z (by decide)
    · rw [if_neg a1] at z
      by_cases a2 : resv A b = true
      · rw [if_pos a2] at z; exact absurd z (by decide)
      · rw [if_neg a2] at z
        by_cases a3 : occ A b = true
        · rw [if_pos a3] at z; exact absurd z (by decide)
        · unfold fre at hfr
          simp [a1, a2, a3] at hfr
/-- codes and answers -/
theorem cr_n {cs : List Int32} {rs : RsA} (hg : rg cs.length rs) (hc : ∀ j, j < cs.length → cs.getD j 0 ≤ -70) : (cr cs rs ≤ -70 → rs.1 ≠ 0) ∧ (¬ cr cs rs ≤ -70 → rs.1 = 0 ∧ cr cs rs = rs.2.1) := by
  obtain ⟨c, a, B⟩ := rs
  cases c with
  | zero =>
    obtain ⟨j, hj, e⟩ := hg.2 rfl
    refine ⟨fun z => ?_, fun _ => ⟨rfl, rfl⟩⟩
    have z : a ≤ -70 := z
    have e : a = nI j := e
    rw [e, Int32.le_iff_toInt_le, nI_toInt hj, show (-70 : Int32).toInt = -70 by decide] at z
    omega
  | succ k => exact ⟨fun _ => Nat.succ_ne_zero k, fun z => absurd (hc k hg.1) z⟩
/-- what every call leaves -/
def Dn (X X' : BG) (r : Int32) : Prop := (r ≤ -70 → bA X' = bA X ∧ bH X' = bH X) ∧ (¬ r ≤ -70 → bH X' = (bA X :: bH X).take 8) ∧ bF X' = []
theorem dn_1 {cs : List Int32} {rs : RsA} (hF : bF X = []) (hg : rg cs.length rs) (hc : ∀ j, j < cs.length → cs.getD j 0 ≤ -70) (hf : rs.1 ≠ 0 → rs.2.2 = bA X) {r : Int32} (e : r = cr cs rs ∧ X' = cgd rs X) : Dn X X' r := by
  obtain ⟨e, eX⟩ := e
  subst eX e
  obtain ⟨c1, c2⟩ := cr_n hg hc
  refine ⟨fun z => ⟨hf (c1 z), ?_⟩, fun z => ?_, hF⟩
  · show (if rs.1 = 0 then (bA X :: bH X).take 8 else bH X) = _
    rw [if_neg (c1 z)]
  · show (if rs.1 = 0 then (bA X :: bH X).take 8 else bH X) = _
    rw [if_pos (c2 z).1]
theorem k70 : (∀ j, j < [(-78 : Int32), -79].length → [(-78 : Int32), -79].getD j 0 ≤ -70) ∧ (∀ j, j < [(-77 : Int32), -78, -79].length → [(-77 : Int32), -78, -79].getD j 0 ≤ -70) ∧ (∀ j, j < [(-77 : Int32), -79].length → [(-77 : Int32), -79].getD j 0 ≤ -70) ∧ (∀ j, j < [(-75 : Int32), -79, -76].length → [(-75 : Int32), -79, -76].getD j 0 ≤ -70) ∧ (∀ j, j < [(-75 : Int32), -79].length → [(-75 : Int32), -79].getD j 0 ≤ -70) ∧ (∀ j, j < [(-78 : Int32)].length → [(-78 : Int32)].getD j 0 ≤ -70) := by decide
theorem rfd_F (x : Int32) : (rfd (bA X) x X).2.2.2.2.1 = bF X := by
  unfold rfd
  cases fnd (bA X) x with
  | none => rfl
  | some t => simp only; split <;> rfl
variable {kd m : Nat} {v r : Int32}
theorem LC.dn (c : LC (L := L) w X h) (hF : bF X = []) (d : DoR kd m v X X' r) : Dn X X' r := by
  obtain ⟨k1, k2, k3, k4, k5, k6⟩ := k70
  have il := c.gk.1
  unfold DoR at d
  rcases d with ⟨-, x, d⟩ | ⟨-, -, x, y, z, d⟩ | ⟨-, -, x, y, d⟩ | ⟨-, x, d⟩ | ⟨-, x, d⟩ | ⟨-, x, d⟩ | ⟨-, -, x, y, d⟩ | ⟨-, -, d⟩ | ⟨-, -, d⟩ | ⟨-, -, d⟩ | ⟨-, -, T, hT, e1, e2⟩
  · exact dn_1 (cs := [-78, -79]) hF (rg_block x il) k1 (ob_f x) d
  · exact dn_1 (cs := [-77, -78, -79]) hF (rg_point x y z il) k2 (op_f x y z) d
  · exact dn_1 (cs := [-77, -78, -79]) hF (rg_link x y il) k2 (ol_f x y) d
  · exact dn_1 (cs := [-77, -79]) hF (rg_shut x) k3 (oh_f x) d
  · exact dn_1 (cs := [-77, -79]) hF (rg_open x) k3 (oo_f x) d
  · exact dn_1 (cs := [-77, -79]) hF (rg_throw x) k3 (ow_f x) d
  · exact dn_1 (cs := [-77, -78, -79]) hF (rg_train x y c.bn) k2 (ot_f x y) d
  · exact dn_1 (cs := [-75, -79, -76]) (X := (bA X, bH X, (rfd (bA X) v X).2.2)) ((rfd_F v).trans hF) (rg_set v c.gk) k4 (os_f v) d
  · exact dn_1 (cs := [-75, -79]) hF (rg_free v c.ip) k5 (of_f v) d
  · exact dn_1 (cs := [-78]) hF (rg_pass (nI m) c.gk c.i.1.2 c.wb) k6 (oq_f (nI m)) d
  · obtain ⟨r1, -, r2, r3⟩ := run_ok X hT
    subst e1 e2
    have h2 := runQ_2 (tX X T)
    refine ⟨fun z => r2 (fun y => ?_), fun z => ?_, r1⟩
    · obtain ⟨-, -, j, hj, e⟩ := r3 y
      unfold lq at z
      rw [y] at z
      have z : (runQ (tX X T)).2 ≤ -70 := z
      rw [e, Int32.le_iff_toInt_le, nI_toInt hj, show (-70 : Int32).toInt = -70 by decide] at z
      omega
    · by_cases y : (runQ (tX X T)).1 = 0
      · exact (r3 y).2.1
      · refine absurd ?_ z
        unfold lq
        have : (runQ (tX X T)).1 = 1 ∨ (runQ (tX X T)).1 = 2 := by omega
        rcases this with y | y
        · rw [y]; exact (by decide : (-78 : Int32) ≤ -70)
        · rw [y]; exact (by decide : (-76 : Int32) ≤ -70)
theorem DoR.pass (d : DoR kd m v X X' r) (h1 : 31 ≤ kd) (h2 : kd ≤ 45) : r = cr [-78] (oPass (bA X) (nI m)) ∧ X' = cgd (oPass (bA X) (nI m)) X := by
  unfold DoR at d
  rcases d with d | d | d | d | d | d | d | d | d | d | d
  all_goals first | (exfalso; have := d.1; omega) | (exfalso; have := d.2.1; omega) | exact d.2.2
theorem DoR.free (d : DoR kd m v X X' r) (h1 : 28 ≤ kd) (h2 : kd ≤ 30) : r = cr [-75, -79] (oFree (bA X) v) ∧ X' = cgd (oFree (bA X) v) X := by
  unfold DoR at d
  rcases d with d | d | d | d | d | d | d | d | d | d | d
  all_goals first | (exfalso; have := d.1; omega) | (exfalso; have := d.2.1; omega) | exact d.2.2
theorem DoR.set (d : DoR kd m v X X' r) (h1 : 22 ≤ kd) (h2 : kd ≤ 27) : r = cr [-75, -79, -76] (oSet (bA X) v) ∧ X' = cgS (bA X) v X := by
  unfold DoR at d
  rcases d with d | d | d | d | d | d | d | d | d | d | d
  all_goals first | (exfalso; have := d.1; omega) | (exfalso; have := d.2.1; omega) | exact d.2.2
theorem DoR.train (d : DoR kd m v X X' r) (h1 : 14 ≤ kd) (h2 : kd ≤ 21) : ∃ x y, r = cr [-77, -78, -79] (oTrain (bA X) x y) ∧ X' = cgd (oTrain (bA X) x y) X := by
  unfold DoR at d
  rcases d with d | d | d | d | d | d | d | d | d | d | d
  all_goals first | (exfalso; have := d.1; omega) | (exfalso; have := d.2.1; omega) | exact d.2.2
theorem LC.fE (c : LC (L := L) w X h) (d : DoR kd m v X X' r) (n : Dn X X' r) (hz : r ≤ -70 ∨ ¬ (31 ≤ kd ∧ kd ≤ 45)) (hk : kd ≤ 45) : aD (bA X') = aD (bA X) ∧ aM (bA X') = aM (bA X) := by
  by_cases y : r ≤ -70
  · rw [(n.1 y).1]; exact ⟨rfl, rfl⟩
  · have hz := hz.resolve_left y
    have key : ∀ {B : AG}, sCM (bA X) B → aD B = aD (bA X) ∧ aM B = aM (bA X) := fun s => ⟨s.2.2, s.2.1⟩
    unfold DoR at d
    rcases d with ⟨-, x, d⟩ | ⟨-, -, x, y, z, d⟩ | ⟨-, -, x, y, d⟩ | ⟨-, x, d⟩ | ⟨-, x, d⟩ | ⟨-, x, d⟩ | ⟨-, -, x, y, d⟩ | ⟨-, -, d⟩ | ⟨-, -, d⟩ | ⟨k1, k2, d⟩ | ⟨k1, k2, d⟩
    · rw [d.2]; exact key (sC_block _ _)
    · rw [d.2]; exact key (sC_point _ _ _ _)
    · rw [d.2]; exact key (sC_link _ _ _)
    · rw [d.2]; exact key (sC_shut _ _)
    · rw [d.2]; exact key (sC_open _ _)
    · rw [d.2]; exact key (sC_throw _ _)
    · rw [d.2]
      show aD (oTrain (bA X) x y).2.2 = _ ∧ aM (oTrain (bA X) x y).2.2 = _
      unfold oTrain
      split
      · split
        · exact ⟨rfl, rfl⟩
        · split <;> exact ⟨rfl, rfl⟩
      · exact ⟨rfl, rfl⟩
    · rw [d.2]; exact key (sC_set _ _)
    · rw [d.2]; exact key (sC_free _ _)
    · exact absurd ⟨k1, k2⟩ hz
    · omega
theorem LC.f1 (c : LC (L := L) w X h) (d : DoR kd m v X X' r) (n : Dn X X' r) (hz : r ≤ -70 ∨ ¬ (14 ≤ kd ∧ kd ≤ 21)) : aC (bA X') = aC (bA X) := by
  by_cases y : r ≤ -70
  · rw [(n.1 y).1]
  · have hz := hz.resolve_left y
    unfold DoR at d
    rcases d with ⟨-, x, d⟩ | ⟨-, -, x, y, z, d⟩ | ⟨-, -, x, y, d⟩ | ⟨-, x, d⟩ | ⟨-, x, d⟩ | ⟨-, x, d⟩ | ⟨k1, k2, x, y, d⟩ | ⟨-, -, d⟩ | ⟨-, -, d⟩ | ⟨-, -, d⟩ | ⟨-, -, T, hT, e1, e2⟩
    · rw [d.2]; exact (sC_block _ _).1
    · rw [d.2]; exact (sC_point _ _ _ _).1
    · rw [d.2]; exact (sC_link _ _ _).1
    · rw [d.2]; exact (sC_shut _ _).1
    · rw [d.2]; exact (sC_open _ _).1
    · rw [d.2]; exact (sC_throw _ _).1
    · exact absurd ⟨k1, k2⟩ hz
    · rw [d.2]; exact (sC_set _ _).1
    · rw [d.2]; exact (sC_free _ _).1
    · rw [d.2]; exact aC_pass _ _
    · obtain ⟨r1, -, r2, r3⟩ := run_ok X hT
      rw [e2]
      by_cases z : (runQ (tX X T)).1 = 0
      · exact (r3 z).1
      · rw [(r2 z).1]
theorem LC.f0 (c : LC (L := L) w X h) (d : DoR kd m v X X' r) (hr : ¬ r ≤ -70) (h1 : 14 ≤ kd) (h2 : kd ≤ 21) : aC (bA X') = aC (bA X) + 1 ∧ fCom X' r (aQ (bA X)).length (aC (bA X)) := by
  obtain ⟨x, y, e, eX⟩ := d.train h1 h2
  subst e eX
  obtain ⟨z1, z2⟩ := (cr_n (cs := [-77, -78, -79]) (rg_train x y c.bn) k70.2.1).2 hr
  rw [z2]
  have key : (oTrain (bA X) x y).1 = 0 → ∃ b d, oTrain (bA X) x y = (0, nI (aC (bA X)), (aL (bA X), aT (bA X) ++ [(aC (bA X), b, d, [], 0, 0)], aQ (bA X) ++ [aC (bA X)], aC (bA X) + 1, aO (bA X), aM (bA X), aD (bA X))) := by
    unfold oTrain
    split
    · split
      · exact fun z => absurd z (Nat.succ_ne_zero _)
      · split
        · exact fun z => absurd z (Nat.succ_ne_zero _)
        · exact fun _ => ⟨_, _, rfl⟩
    · exact fun z => absurd z (Nat.succ_ne_zero _)
  obtain ⟨b, d, e⟩ := key z1
  unfold fCom
  show aC (oTrain (bA X) x y).2.2 = _ ∧ _ ∧ ∃ u ∈ aT (oTrain (bA X) x y).2.2, _ ∧ _ ∧ _ ∧ (aQ (oTrain (bA X) x y).2.2).getD _ _ = _ ∧ _ < (aQ (oTrain (bA X) x y).2.2).length
  rw [e]
  refine ⟨rfl, rfl, (aC (bA X), b, d, [], 0, 0), List.mem_append_right _ (List.mem_singleton.mpr rfl), rfl, rfl, rfl, ?_, ?_⟩
  · show (aQ (bA X) ++ [aC (bA X)]).getD (aQ (bA X)).length 0 = _
    rw [List.getD_eq_getElem?_getD, List.getElem?_append_right (Nat.le_refl _), Nat.sub_self]
    rfl
  · show _ < (aQ (bA X) ++ [aC (bA X)]).length
    rw [List.length_append]
    exact Nat.lt_succ_self _
variable {o : Option TG} {x12 x13 x15 x16 x23 x25 : Int32}
theorem LC.fB (c : LC (L := L) w X h) (d : DoR kd m v X X' r) (bf : Bf (bA X) o v x12 x13 x15 x16 x23 x25) (hr : ¬ r ≤ -70) (h1 : 28 ≤ kd) (h2 : kd ≤ 30) : x12 = nI 1 ∧ r = nI (aQ (bA X)).length + nI 1 ∧ ∃ u ∈ aT (bA X'), v = nI (tn u) ∧ tr u = [] ∧ (aQ (bA X')).getD (aQ (bA X)).length 0 = tn u ∧ (aQ (bA X)).length < (aQ (bA X')).length := by
  obtain ⟨e, eX⟩ := d.free h1 h2
  subst e eX
  obtain ⟨z1, z2⟩ := (cr_n (cs := [-75, -79]) (rg_free v c.ip) k70.2.2.2.2.1).2 hr
  rw [z2]
  obtain ⟨b0, bf⟩ := bf
  show _ ∧ _ ∧ ∃ u ∈ aT (oFree (bA X) v).2.2, _ ∧ _ ∧ (aQ (oFree (bA X) v).2.2).getD _ _ = _ ∧ _ < (aQ (oFree (bA X) v).2.2).length
  unfold oFree at z1 ⊢
  rw [b0] at z1 ⊢
  cases o with
  | none => exact absurd z1 (Nat.succ_ne_zero _)
  | some t =>
    obtain ⟨ht, ev, b1, -⟩ := bf
    simp only at z1 ⊢
    by_cases q : tr t = []
    · rw [if_pos q] at z1
      exact absurd z1 (Nat.succ_ne_zero _)
    · rw [if_neg q] at b1 ⊢
      refine ⟨b1, (nI_add _ _).symm, (tn t, tb t, td t, [], tu t, tl t), List.mem_map.mpr ⟨t, ht, if_pos rfl⟩, ev, rfl, ?_, ?_⟩
      · show (aQ (bA X) ++ [tn t]).getD (aQ (bA X)).length 0 = _
        rw [List.getD_eq_getElem?_getD, List.getElem?_append_right (Nat.le_refl _), Nat.sub_self]
        rfl
      · show _ < (aQ (bA X) ++ [tn t]).length
        rw [List.length_append]
        exact Nat.lt_succ_self _
theorem LC.fA (c : LC (L := L) w X h) (d : DoR kd m v X X' r) (bf : Bf (bA X) o v x12 x13 x15 x16 x23 x25) (h1 : 22 ≤ kd) (h2 : kd ≤ 27) : fSet X' v r x12 x13 x25 (if r ≤ -70 then nI 0 else nI 1) (aQ (bA X)).length := by
  obtain ⟨e, eX⟩ := d.set h1 h2
  have bn := c.bn
  obtain ⟨y1, y2⟩ := cr_n (cs := [-75, -79, -76]) (rg_set v c.gk) k70.2.2.2.1
  obtain ⟨b0, bf⟩ := bf
  unfold fSet
  by_cases hr : r ≤ -70
  · rw [if_pos hr]
    refine ⟨fun z => absurd z n01.1, fun _ => ?_⟩
    have hA : bA X' = bA X := by rw [eX]; exact os_f v (y1 (e ▸ hr))
    have hne := y1 (e ▸ hr)
    cases o with
    | none =>
      refine Or.inl ⟨?_, ?_⟩
      · rw [e]; unfold oSet; rw [b0]; rfl
      · rw [bf.1]; exact n01.2.2.1
    | some t =>
      obtain ⟨ht, ev, p1, p2, -, -, -, p6⟩ := bf
      by_cases q : tr t = []
      · by_cases q2 : can (bA X) t = true
        · exfalso
          apply hne
          unfold oSet
          rw [b0]
          simp only
          rw [if_neg (fun z => z q), if_pos q2]
        · have e3 : (oSet (bA X) v).1 = 3 := by
            unfold oSet
            rw [b0]
            simp only
            rw [if_neg (fun z => z q), if_neg q2]
          have er : r = -76 := by
            rw [e]
            unfold cr
            rw [e3]
            rfl
          have eY : bY X' = (why (bA X) t).1 ∧ bB X' = (why (bA X) t).2 := by
            rw [eX]
            show (rfd (bA X) v X).2.2.2.2.2.1 = _ ∧ (rfd (bA X) v X).2.2.2.2.2.2.1 = _
            unfold rfd
            rw [b0]
            simp only
            rw [if_pos e3]
            exact ⟨rfl, rfl⟩
          obtain ⟨f1, f2⟩ := f_why c.gk ht q q2
          rw [if_pos q] at p1
          rw [if_neg q2] at p2
          refine Or.inr (Or.inr ⟨by rw [er]; exact n01.2.2.2.2.1, by rw [er]; exact n01.2.2.2.2.2, p2, p1, fun z => ?_, fun z => ?_⟩)
          · have hR : rtT (bA X) t = [] := by
              apply Classical.byContradiction
              intro y
              rw [if_neg y] at p6
              apply z
              rw [p6, nI_leI (by decide)]
              · exact Nat.zero_le _
              · obtain ⟨k1, k2, -⟩ := c.ip.2.1 t ht
                obtain ⟨l1, -, l3⟩ := rt_len c.gk k1 k2
                have hs : sl (aL (bA X)) (rtT (bA X) t) ≤ 9 * (rtT (bA X) t).length := sl_le c.gk.1 _ l3
                have l1 : (rtT (bA X) t).length ≤ 11 := l1
                omega
            rw [eY.1, eY.2, f1 hR]
            exact ⟨rfl, rfl⟩
          · have hR : ¬ rtT (bA X) t = [] := fun y => by
              rw [if_pos y] at p6
              rw [p6] at z
              exact n01.2.2.1 z
            obtain ⟨b, g1, g2, g3⟩ := f2 hR
            rw [eY.1, eY.2, hA, g1]
            exact ⟨b, rfl, g2, rfl, g3⟩
      · refine Or.inr (Or.inl ⟨?_, ?_⟩)
        · rw [e]
          unfold oSet
          rw [b0]
          simp only
          rw [if_pos q]
          rfl
        · rw [p1, if_neg q]
  · rw [if_neg hr]
    refine ⟨fun _ => ?_, fun z => absurd z.symm n01.1⟩
    obtain ⟨z1, z2⟩ := y2 (e ▸ hr)
    cases o with
    | none =>
      unfold oSet at z1
      rw [b0] at z1
      exact absurd z1 (Nat.succ_ne_zero _)
    | some t =>
      obtain ⟨ht, ev, p1, p2, -, -, -, p6⟩ := bf
      by_cases q : tr t = []
      · by_cases q2 : can (bA X) t = true
        · have e3 : oSet (bA X) v = (0, nI (sl (aL (bA X)) (rtT (bA X) t)), wQ (setT (bA X) t) ((aQ (bA X)).filter (fun q => decide (q ≠ tn t)))) := by
            unfold oSet
            rw [b0]
            simp only
            rw [if_neg (fun z => z q), if_pos q2]
          have hA : bA X' = wQ (setT (bA X) t) ((aQ (bA X)).filter (fun q => decide (q ≠ tn t))) := by
            rw [eX]
            show (oSet (bA X) v).2.2 = _
            rw [e3]
          obtain ⟨u, hu, u1, u2, u3, u4, u5⟩ := f_set c.gk ht q2
          rw [if_pos q2] at p2
          rw [if_neg (rt_in c.gk ht q2).2.2.1] at p6
          refine ⟨p2, ?_, ?_⟩
          · rw [e, z2, e3, p6]
          · rw [hA]
            refine ⟨u, hu, by rw [ev, u1], u2, u3, by rw [u4, p6], ?_⟩
            rw [nI_sub (by omega)]
            congr 1
            omega
        · exfalso
          unfold oSet at z1
          rw [b0] at z1
          simp only at z1
          rw [if_neg (fun z => z q), if_neg q2] at z1
          exact absurd z1 (Nat.succ_ne_zero _)
      · exfalso
        unfold oSet at z1
        rw [b0] at z1
        simp only at z1
        rw [if_pos q] at z1
        exact absurd z1 (Nat.succ_ne_zero _)
theorem LC.fDC (c : LC (L := L) w X h) (d : DoR kd m v X X' r) (bf : Bf (bA X) o v x12 x13 x15 x16 x23 x25) (m1 : 1 ≤ m) (m6 : m ≤ 6) (h1 : 31 ≤ kd) (h2 : kd ≤ 45) : (x12 = nI 1 → (¬ nI m < x15 → fnd (bA X') v = none) ∧ (nI m < x15 → ∃ u ∈ aT (bA X'), v = nI (tn u) ∧ tr u ≠ [] ∧ nI (rem (bA X') u) = x15 - nI m ∧ (x16 ≤ nI m ∨ nI (tb u) = x23))) ∧ aM (bA X') = aM (bA X) + m ∧ nI (aO (bA X')) = nI (aO (bA X)) + r ∧ nI (aT (bA X')).length = nI (aT (bA X)).length - r ∧ aD (bA X) ≤ aD (bA X') ∧ aD (bA X') ≤ aD (bA X) + (aQ (bA X)).length * m := by
  obtain ⟨e, eX⟩ := d.pass h1 h2
  have hA : bA X' = mins m (bA X) := by
    rw [eX]
    show (oPass (bA X) (nI m)).2.2 = _
    rw [pass_ok m1 m6]
  have er : r = nI (aO (mins m (bA X)) - aO (bA X)) := by
    rw [e, pass_ok m1 m6]
    rfl
  rw [hA, er]
  exact ⟨fun hx => f_pass c.gk c.i.1.2 c.w6 bf m1 m6 hx, f_pass2 c.gk c.i.1.2 c.w6 m m6⟩
end FCT
