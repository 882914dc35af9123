/-! WHAT THE CALLS KEEP: minutes; bounds -/
section IV3
variable {A : AG} {G : LG}
theorem ent_sub (G : LG) (m : Nat) (t : TG) : ∀ b ∈ th_ (ent G m t), b ∈ th_ t := by
  cases hr : tr t with
  | nil =>
    have he : ent G m t = t := by unfold ent; rw [hr]
    rw [he]
    exact fun _ h => h
  | cons c l =>
    by_cases e : tu t = m
    · have he : th_ (ent G m t) = c :: l := by unfold ent; rw [hr]; simp only; rw [if_pos e]; rfl
      rw [he]
      intro b hb
      unfold th_
      rw [hr]
      exact List.mem_cons_of_mem _ hb
    · have he : ent G m t = t := by unfold ent; rw [hr]; simp only; rw [if_neg e]
      rw [he]
      exact fun _ h => h
theorem ent_ok (il : IL (aL A)) {t : TG} (k : tOk A t) : (tb (ent (aL A) (aM A + 1) t) ≠ td (ent (aL A) (aM A + 1) t) → tOk (mnt A) (ent (aL A) (aM A + 1) t)) ∧ (tb (ent (aL A) (aM A + 1) t) ≠ td (ent (aL A) (aM A + 1) t) → tr (ent (aL A) (aM A + 1) t) = [] → tr t = []) ∧ (tr t = [] → ent (aL A) (aM A + 1) t = t) := by
  obtain ⟨k1, k2, k3, k4, k5, k6, k7, k8, k9⟩ := k
  cases hr : tr t with
  | nil =>
    have he : ent (aL A) (aM A + 1) t = t := by unfold ent; rw [hr]
    rw [he]
    exact ⟨fun _ => ⟨k1, k2, k3, k4, k5, k6, fun z => absurd hr z, k8, k9⟩, fun _ _ => rfl, fun _ => rfl⟩
  | cons c l =>
    have hne : tr t ≠ [] := by rw [hr]; simp
    obtain ⟨z1, z2, z3⟩ := k7 hne
    by_cases e : tu t = aM A + 1
    · have he : ent (aL A) (aM A + 1) t = (tn t, c, td t, l, dueT (aL A) (aM A + 1) t l, tl t) := by
        unfold ent
        rw [hr]
        simp only
        rw [if_pos e]
        cases l <;> rfl
      rw [he]
      rw [hr] at k5 k6 z1 k9
      unfold th_ at k8
      rw [hr] at k8
      refine ⟨fun hcd => ⟨k5 c List.mem_cons_self, k2, hcd, k4, fun b hb => k5 b (List.mem_cons_of_mem _ hb), k6.2, fun z => ?_, (List.nodup_cons.mp k8).2, fun b hb => k9 b (List.mem_cons_of_mem _ hb)⟩, fun hcd hl => ?_, fun z => by cases z⟩
      · cases l with
        | nil => exact absurd rfl z
        | cons e l =>
          refine ⟨by rw [List.getLast?_cons_cons] at z1; exact z1, ?_, ?_⟩
          · show aM A + 1 < aM A + 1 + gl (aL A) e
            have := (il.2.1 e (k5 e (List.mem_cons_of_mem _ List.mem_cons_self))).1
            omega
          · exact Nat.le_refl _
      · have hl : l = [] := hl
        subst hl
        rw [List.getLast?_singleton] at z1
        cases z1
        exact absurd rfl hcd
    · have he : ent (aL A) (aM A + 1) t = t := by unfold ent; rw [hr]; simp only; rw [if_neg e]
      rw [he]
      refine ⟨fun _ => ⟨k1, k2, k3, k4, k5, k6, fun z => ⟨z1, ?_, ?_⟩, k8, k9⟩, fun _ z => absurd z hne, fun _ => rfl⟩
      · show aM A + 1 < tu t
        omega
      · show tu t ≤ aM A + 1 + gl (aL A) ((tr t).headD 0)
        omega
theorem fl_cnt : ∀ l : List TG, (l.filter (fun t => decide (tb t ≠ td t))).length + l.countP (fun t => decide (tb t = td t)) = l.length := by
  intro l
  induction l with
  | nil => rfl
  | cons t l ih =>
    rw [List.filter_cons, List.countP_cons, List.length_cons]
    by_cases e : tb t = td t
    · rw [if_neg (by simp [e]), if_pos (by simp [e])]
      omega
    · rw [if_pos (by simp [e]), if_neg (by simp [e]), List.length_cons]
      omega
theorem fl_sum {f : TG → Bool} : ∀ l : List TG, ((l.filter f).map tl).sum ≤ (l.map tl).sum := by
  intro l
  induction l with
  | nil => exact Nat.le_refl _
  | cons t l ih =>
    rw [List.filter_cons, List.map_cons, List.sum_cons]
    cases f t with
    | true => rw [if_pos rfl, List.map_cons, List.sum_cons]; omega
    | false => rw [if_neg (by decide)]; omega
theorem ip_mnt (il : IL (aL A)) (i : IP A) : IP (mnt A) := by
  obtain ⟨i1, i2, i3, i4, i5, i6, i7⟩ := i
  refine ⟨?_, ?_, ?_, i4, ?_, ?_, ?_⟩
  · exact Nat.le_trans (List.length_filter_le _ _) (by rw [List.length_map]; exact i1)
  · intro u hu
    obtain ⟨h1, h2⟩ := List.mem_filter.mp hu
    obtain ⟨t, ht, e⟩ := List.mem_map.mp h1
    subst e
    exact (ent_ok il (i2 t ht)).1 (of_decide_eq_true h2)
  · refine List.Pairwise.filter _ (List.pairwise_map.mpr (i3.imp fun {t u} z => ?_))
    rw [(ent_n _ _ _).1, (ent_n _ _ _).1]
    exact ⟨z.1, fun b hb hb2 => z.2 b (ent_sub _ _ _ b hb) (ent_sub _ _ _ b hb2)⟩
  · intro q
    show q ∈ aQ A ↔ ∃ t ∈ ((aT A).map (ent (aL A) (aM A + 1))).filter (fun t => decide (tb t ≠ td t)), tn t = q ∧ tr t = []
    rw [i5]
    constructor
    · rintro ⟨t, ht, e, er⟩
      have he := (ent_ok il (i2 t ht)).2.2 er
      exact ⟨t, List.mem_filter.mpr ⟨List.mem_map.mpr ⟨t, ht, he⟩, decide_eq_true (i2 t ht).2.2.1⟩, e, er⟩
    · rintro ⟨u, hu, e, er⟩
      obtain ⟨h1, h2⟩ := List.mem_filter.mp hu
      obtain ⟨t, ht, e2⟩ := List.mem_map.mp h1
      subst e2
      exact ⟨t, ht, by rw [← e, (ent_n _ _ _).1], (ent_ok il (i2 t ht)).2.1 (of_decide_eq_true h2) er⟩
  · show (((aT A).map (ent (aL A) (aM A + 1))).filter (fun t => decide (tb t ≠ td t))).length + (aO A + ((aT A).map (ent (aL A) (aM A + 1))).countP (fun t => decide (tb t = td t))) = aC A
    have := fl_cnt ((aT A).map (ent (aL A) (aM A + 1)))
    rw [List.length_map] at this
    omega
  · show ((((aT A).map (ent (aL A) (aM A + 1))).filter (fun t => decide (tb t ≠ td t))).map tl).sum ≤ aD A
    have h1 := fl_sum (f := fun t => decide (tb t ≠ td t)) ((aT A).map (ent (aL A) (aM A + 1)))
    have h2 : ((aT A).map (ent (aL A) (aM A + 1))).map tl = (aT A).map tl := by
      rw [List.map_map]
      exact List.map_congr_left (fun t _ => (ent_n _ _ _).2.2)
    rw [h2] at h1
    omega
theorem gk_mnt (k : GK A) : GK (mnt A) := ⟨k.1, k.2.1, ip_mnt k.1 k.2.2⟩
theorem gk_delay (k : GK A) {t : TG} (ht : t ∈ aT A) : GK (let A1 := upT A (tn t) (fun u => (tn u, tb u, td u, tr u, tu u, tl u + 1)); (aL A1, aT A1, aQ A1, aC A1, aO A1, aM A1, aD A1 + 1)) := by
  obtain ⟨k1, k2, k3, k4, k5, k6, k7, k8, k9⟩ := k.2.2.2.1 t ht
  refine ⟨k.1, k.2.1, ip_up k.2.2 ht rfl rfl rfl (fun u hu _ => k.2.2.2.1 u hu) ⟨k1, k2, k3, k4, k5, k6, k7, k8, k9⟩ (fun u hu hne b hb hbu => ?_) k.2.2.2.2.2.1 (fun q => ?_) rfl rfl ?_⟩
  · obtain ⟨j, hj, ej⟩ := List.getElem_of_mem hu
    obtain ⟨l, hl, el⟩ := List.getElem_of_mem ht
    have hp := List.pairwise_iff_getElem.mp k.2.2.2.2.1
    have hb : b ∈ th_ t := hb
    rcases Nat.lt_trichotomy j l with z | z | z
    · exact (hp j l hj hl z).2 b (by rw [ej]; exact hbu) (by rw [el]; exact hb)
    · subst z
      rw [ej] at el
      exact hne (by rw [el])
    · exact (hp l j hl hj z).2 b (by rw [el]; exact hb) (by rw [ej]; exact hbu)
  · show q ∈ aQ A ↔ (q ≠ tn t ∧ q ∈ aQ A) ∨ (q = tn t ∧ tr t = [])
    constructor
    · intro hq
      by_cases e : q = tn t
      · obtain ⟨u, hu, e1, e2⟩ := (k.2.2.2.2.2.2.1 q).mp hq
        have := k.2.2.tu ht hu (e1.trans e)
        subst this
        exact Or.inr ⟨e, e2⟩
      · exact Or.inl ⟨e, hq⟩
    · rintro (⟨-, z⟩ | ⟨z1, z2⟩)
      · exact z
      · exact (k.2.2.2.2.2.2.1 q).mpr ⟨t, ht, z1.symm, z2⟩
  · show tl t + 1 + aD A ≤ tl t + (aD A + 1)
    omega
theorem fnd_q (i : IP A) (hC : aC A < 2 ^ 31) {num : Nat} (hm : num ∈ aQ A) : ∃ t, fnd A (nI num) = some t ∧ t ∈ aT A ∧ tn t = num ∧ tr t = [] := by
  obtain ⟨t, ht, e1, e2⟩ := (i.2.2.2.2.1 num).mp hm
  have hlt : ∀ u ∈ aT A, tn u < 2 ^ 31 := fun u hu => by have := (i.2.1 u hu).2.2.2.1; omega
  cases hf : fnd A (nI num) with
  | none =>
    unfold fnd at hf
    have := List.find?_eq_none.mp hf t ht
    exact absurd (decide_eq_true (by rw [e1])) this
  | some u =>
    obtain ⟨h1, h2⟩ := fnd_mem hf
    rw [nI_eq (hlt u h1) (by have := hlt t ht; omega)] at h2
    have := i.tu ht h1 (by omega)
    subst this
    exact ⟨_, rfl, ht, e1, e2⟩
theorem gk_qGo : ∀ (rest : List Nat) (A : AG) (pre : List Nat), GK (wQ A (pre ++ rest)) → aC A < 2 ^ 31 → GK (wQ (qGo A rest).1 (pre ++ (qGo A rest).2)) := by
  intro rest
  induction rest with
  | nil => intro A pre k _; exact k
  | cons num q ih =>
    intro A pre k hC
    have hm : num ∈ aQ (wQ A (pre ++ num :: q)) := List.mem_append_right _ List.mem_cons_self
    obtain ⟨t, hf, ht, e1, e2⟩ := fnd_q k.2.2 hC hm
    have hf' : fnd A (nI num) = some t := hf
    have ht' : t ∈ aT A := ht
    unfold qGo
    rw [hf']
    simp only
    by_cases e : can A t = true
    · rw [if_pos e]
      refine ih (setT A t) pre (gk_setT (A := wQ A (pre ++ num :: q)) k ht e (Q := pre ++ q) ?_ (fun x => ?_)) hC
      · have hn : (pre ++ num :: q).Nodup := k.2.2.2.2.2.1
        obtain ⟨n1, n2, n3⟩ := List.nodup_append.mp hn
        exact List.nodup_append.mpr ⟨n1, (List.nodup_cons.mp n2).2, fun a ha b hb => n3 a ha b (List.mem_cons_of_mem _ hb)⟩
      · have hn : (pre ++ num :: q).Nodup := k.2.2.2.2.2.1
        obtain ⟨n1, n2, n3⟩ := List.nodup_append.mp hn
        show x ∈ pre ++ q ↔ x ≠ tn t ∧ x ∈ pre ++ num :: q
        rw [e1, List.mem_append, List.mem_append, List.mem_cons]
        constructor
        · rintro (z | z)
          · exact ⟨fun y => n3 x z num List.mem_cons_self y, Or.inl z⟩
          · exact ⟨fun y => (List.nodup_cons.mp n2).1 (y ▸ z), Or.inr (Or.inr z)⟩
        · rintro ⟨y, z | z | z⟩
          · exact Or.inl z
          · exact absurd z y
          · exact Or.inr z
    · rw [if_neg e]
      have h1 := gk_delay k ht
      rw [e1] at h1
      have h2 := ih (let A1 := upT A num (fun u => (tn u, tb u, td u, tr u, tu u, tl u + 1)); (aL A1, aT A1, aQ A1, aC A1, aO A1, aM A1, aD A1 + 1)) (pre ++ [num]) (by rw [List.append_assoc]; exact h1) hC
      rw [List.append_assoc] at h2
      exact h2
theorem gk_min1 (k : GK A) (hC : aC A < 2 ^ 31) : GK (min1 A) := gk_qGo (aQ A) (mnt A) [] (gk_mnt k) hC
theorem qGo_d : ∀ (Q : List Nat) (A : AG), aD A ≤ aD (qGo A Q).1 ∧ aD (qGo A Q).1 ≤ aD A + Q.length := by
  intro Q
  induction Q with
  | nil => intro A; exact ⟨Nat.le_refl _, Nat.le_refl _⟩
  | cons q Q ih =>
    intro A
    unfold qGo
    cases hf : fnd A (nI q) with
    | none => have := ih A; simp only [List.length_cons]; omega
    | some t =>
      simp only [List.length_cons]
      by_cases e : can A t = true
      · rw [if_pos e]
        have h1 := ih (setT A t)
        have h2 : aD (setT A t) = aD A := rfl
        omega
      · rw [if_neg e]
        have h1 := ih (let A1 := upT A q (fun u => (tn u, tb u, td u, tr u, tu u, tl u + 1)); (aL A1, aT A1, aQ A1, aC A1, aO A1, aM A1, aD A1 + 1))
        exact ⟨Nat.le_trans (show aD A ≤ aD A + 1 from Nat.le_succ _) h1.1, Nat.le_trans h1.2 (by show aD A + 1 + Q.length ≤ aD A + (Q.length + 1); omega)⟩
theorem min1_s (A : AG) : aC (min1 A) = aC A ∧ aM (min1 A) = aM A + 1 ∧ aD A ≤ aD (min1 A) ∧ aD (min1 A) ≤ aD A + (aQ A).length := by
  obtain ⟨h1, h2, h3⟩ := qGo_s (aQ A) (mnt A)
  obtain ⟨h4, h5⟩ := qGo_d (aQ A) (mnt A)
  exact ⟨h3, h2, h4, h5⟩
theorem mins_s : ∀ (k : Nat) (A : AG), GK A → aC A < 2 ^ 31 → GK (mins k A) ∧ aC (mins k A) = aC A ∧ aM (mins k A) = aM A + k ∧ aD (mins k A) ≤ aD A + 8 * k := by
  intro k
  induction k with
  | zero => intro A g _; exact ⟨g, rfl, rfl, Nat.le_refl _⟩
  | succ k ih =>
    intro A g hC
    obtain ⟨m1, m2, m3, m4⟩ := min1_s A
    obtain ⟨h1, h2, h3, h4⟩ := ih (min1 A) (gk_min1 g hC) (by rw [m1]; exact hC)
    have hq := g.2.2.q8
    exact ⟨h1, h2.trans m1, by show aM (mins k (min1 A)) = aM A + (k + 1); omega, by show aD (mins k (min1 A)) ≤ aD A + 8 * (k + 1); omega⟩
/-- the bounds after w commands -/
def BW (w : Nat) (A : AG) : Prop := aC A ≤ w ∧ aM A ≤ 240 * w ∧ aD A ≤ 8 * aM A
theorem BW.up {w w' : Nat} (b : BW w A) (h : w ≤ w') : BW w' A := by
  obtain ⟨b1, b2, b3⟩ := b
  exact ⟨by omega, by omega, b3⟩
theorem BW.bn {w : Nat} (b : BW w A) (h : w ≤ 6200) : BN A := by
  obtain ⟨b1, b2, b3⟩ := b
  exact ⟨by omega, by omega, by omega⟩
theorem BW.mins {w : Nat} (b : BW w A) (g : GK A) (h : w ≤ 6200) {k : Nat} (hk : k ≤ 240) : GK (mins k A) ∧ BW (w + 1) (mins k A) ∧ IP (mins k A) ∧ BN (mins k A) := by
  obtain ⟨b1, b2, b3⟩ := b
  obtain ⟨h1, h2, h3, h4⟩ := mins_s k A g (by omega)
  exact ⟨h1, ⟨by omega, by omega, by omega⟩, h1.2.2, ⟨by omega, by omega, by omega⟩⟩
theorem bw_block {w : Nat} (b : BW w A) (x : Int32) : BW (w + 1) (oBlock A x).2.2 := by
  have h := b.up (Nat.le_succ w)
  unfold oBlock
  split
  · exact h
  · split
    · exact h
    · exact h
theorem bw_point {w : Nat} (b : BW w A) (x y z : Int32) : BW (w + 1) (oPoint A x y z).2.2 := by
  have h := b.up (Nat.le_succ w)
  unfold oPoint
  split
  · split
    · exact h
    · split
      · exact h
      · exact h
  · exact h
theorem bw_link {w : Nat} (b : BW w A) (x y : Int32) : BW (w + 1) (oLink A x y).2.2 := by
  have h := b.up (Nat.le_succ w)
  unfold oLink
  split
  · split
    · exact h
    · split
      · exact h
      · exact h
  · exact h
theorem bw_shut {w : Nat} (b : BW w A) (x : Int32) : BW (w + 1) (oShut A x).2.2 := by
  have h := b.up (Nat.le_succ w)
  unfold oShut
  split
  · exact h
  · split
    · exact h
    · exact h
theorem bw_open {w : Nat} (b : BW w A) (x : Int32) : BW (w + 1) (oOpen A x).2.2 := by
  have h := b.up (Nat.le_succ w)
  unfold oOpen
  split
  · exact h
  · split
    · exact h
    · exact h
theorem bw_throw {w : Nat} (b : BW w A) (x : Int32) : BW (w + 1) (oThrow A x).2.2 := by
  have h := b.up (Nat.le_succ w)
  unfold oThrow
  split
  · exact h
  · split
    · exact h
    · split
      · exact h
      · exact h
theorem bw_train {w : Nat} (b : BW w A) (x y : Int32) : BW (w + 1) (oTrain A x y).2.2 := by
  have h := b.up (Nat.le_succ w)
  unfold oTrain
  split
  · split
    · exact h
    · split
      · exact h
      · obtain ⟨b1, b2, b3⟩ := b
        exact ⟨Nat.succ_le_succ b1, by show aM A ≤ _; omega, b3⟩
  · exact h
theorem bw_set {w : Nat} (b : BW w A) (x : Int32) : BW (w + 1) (oSet A x).2.2 := by
  have h := b.up (Nat.le_succ w)
  unfold oSet
  split
  · exact h
  · split
    · exact h
    · split
      · exact h
      · exact h
theorem bw_free {w : Nat} (b : BW w A) (x : Int32) : BW (w + 1) (oFree A x).2.2 := by
  have h := b.up (Nat.le_succ w)
  unfold oFree
  split
  · exact h
  · split
    · exact h
    · exact h
theorem pass_n {x : Int32} (h : ¬ (x < nI 1 ∨ nI 240 < x)) : x.toNatClampNeg ≤ 240 := by
  obtain ⟨j, hj, hj1, rfl⟩ := nI_of1 (fun z => h (Or.inl z))
  rw [nI_clamp hj]
  have : ¬ nI 240 < nI j := fun z => h (Or.inr z)
  rw [nI_ltI (by decide) hj] at this
  omega
theorem bw_pass {w : Nat} (b : BW w A) (g : GK A) (hw : w ≤ 6200) (x : Int32) : BW (w + 1) (oPass A x).2.2 ∧ GK (oPass A x).2.2 := by
  unfold oPass
  by_cases e : x < nI 1 ∨ nI 240 < x
  · rw [if_pos e]; exact ⟨b.up (Nat.le_succ w), g⟩
  · rw [if_neg e]
    obtain ⟨h1, h2, -⟩ := b.mins g hw (pass_n e)
    exact ⟨h2, h1⟩
theorem rpS.gk {h : AH} {S : Nat} (p : rpS h S A) (i : IP A) : GK A := ⟨p.2.1.1.2.2, p.2.1.2.2, i⟩
end IV3
