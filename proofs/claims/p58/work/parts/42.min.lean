/-! THE CLASS'S MINUTES: one minute -/
section MI
variable {h : AH} {S a : Nat} {A : AG} {G : LG}
theorem IQ.of (i : IT A) (pw : (aT A).Pairwise (fun t u => tn t < tn u)) (hb : ∀ t ∈ aT A, tn t < 2 ^ 31) : IQ A := by
  refine ⟨i, fun j k t u hj hk e => ?_, hb⟩
  have hp := List.pairwise_iff_getElem.mp pw
  obtain ⟨h1, e1⟩ := List.getElem?_eq_some_iff.mp hj
  obtain ⟨h2, e2⟩ := List.getElem?_eq_some_iff.mp hk
  rcases Nat.lt_trichotomy j k with z | z | z
  · have := hp j k h1 h2 z
    rw [e1, e2] at this
    omega
  · exact z.symm
  · have := hp k j h2 h1 z
    rw [e1, e2] at this
    omega
theorem ent_n (G : LG) (m : Nat) (t : TG) : tn (ent G m t) = tn t ∧ td (ent G m t) = td t ∧ tl (ent G m t) = tl t := by
  unfold ent
  cases hr : tr t with
  | nil => exact ⟨rfl, rfl, rfl⟩
  | cons c l =>
    simp only
    by_cases e : tu t = m
    · rw [if_pos e]; exact ⟨rfl, rfl, rfl⟩
    · rw [if_neg e]; exact ⟨rfl, rfl, rfl⟩
theorem ent_in {m : Nat} {t : TG} (k : tIn A t) : tIn A (ent (aL A) m t) := by
  obtain ⟨k1, k2, k3⟩ := id k
  unfold ent
  cases hr : tr t with
  | nil => exact k
  | cons c l =>
    simp only
    by_cases e : tu t = m
    · rw [if_pos e]
      rw [hr] at k3
      exact ⟨k3 c List.mem_cons_self, k2, fun b hb => k3 b (List.mem_cons_of_mem _ hb)⟩
    · rw [if_neg e]; exact k
theorem c_considerQueue (p : rpS h S A) (i : IQ A) (hq : ∀ q ∈ aQ A, q < 2 ^ 31) {K : AH → Prop} (k : ∀ g', chg S (S + 43) h g' → rpS g' S (wQ (qGo A (aQ A)).1 (qGo A (aQ A)).2) → K g') : wX7_considerQueue S h K :=
  ⟨(aQ A).length + 1, cons_l (aQ A) 0 0 h A (aQ A) K p i rfl (by omega) (fun i q hi => by rw [Nat.zero_add]; exact hi) (Nat.le_refl _) hq (fun g' c p' => k g' c (by simpa using p'))⟩
theorem c_passMinute (p : rpS h S A) (i : IP A) (bn : BN A) {K : AH → Prop} (k : ∀ g', chg S (S + 43) h g' → rpS g' S (min1 A) → K g') : wX7_passMinute S h K := by
  have w := p.2.1.1
  have h12 := w.n12
  have h8 := i.1
  obtain ⟨b1, b2, b3⟩ := bn
  have e7 : mI h S 7 = nI (aM A) := p.2.2.2.2.2.2.1
  unfold wX7_passMinute
  refine ⟨p.1.o, fun h2 e => ?_⟩
  rw [e7, nI_add] at e
  subst e
  have p1 : rpS (uI h S 7 (nI (aM A + 1))) S (aL A, aT A, aQ A, aC A, aO A, aM A + 1, aD A) := by
    obtain ⟨s, r, c1, c2, c3, c4, c5, c6, c7, c8, c9, c10⟩ := id p
    refine ⟨s.ch (chi.uI (Nat.le_refl S) (Nat.lt_succ_self S)), r.uI (by omega), ?_, ?_, ?_, ?_, ?_, c6, fun j t ht => ?_, fun j q hq => ?_, c9, c10⟩
    · simp [mI_uI]; exact c1
    · simp [mI_uI]; exact c2
    · simp [mI_uI]; exact c3
    · simp [mI_uI]; exact c4
    · simp [mI_uI, aM]
    · have hj : j < 8 := Nat.lt_of_lt_of_le (List.getElem?_eq_some_iff.mp ht).1 c9
      have := s.tR hj
      exact (c7 j t ht).ch (mI_o (by omega))
    · rw [mI_o (by omega)]; exact c8 j q hq
  have ok : ∀ t ∈ aT A, tK (aL A, aT A, aQ A, aC A, aO A, aM A + 1, aD A) t := fun t ht => by
    obtain ⟨k1, k2, k3, k4, k5, k6, k7, k8, k9⟩ := i.2.1 t ht
    refine ⟨k1, k5, k6, k8, fun z => ?_⟩
    have h1 := (k7 z).2.2
    cases hr : tr t with
    | nil => exact absurd hr z
    | cons c l =>
      rw [hr] at h1 k5
      have := (w.gl9 (k5 c List.mem_cons_self)).2
      simp only [List.headD_cons] at h1
      omega
  have hin : ∀ u ∈ (aT A).map (ent (aL A) (aM A + 1)), tIn A u := fun u hu => by
    obtain ⟨t, ht, rfl⟩ := List.mem_map.mp hu
    exact ent_in (i.it.2 t ht)
  refine ⟨(aT A).length + 1, enter_l p1 ok (show aM A + 1 < 2 ^ 31 by omega) (fun g c pg => ?_) (aT A).length 0 _ (aT A) (by show 0 + (aT A).length = (aT A).length; omega) (chi.rf _ _ _) p1 rfl (fun i hi => absurd hi (Nat.not_lt_zero _)) (fun _ _ => rfl)⟩
  have itm : IT (wT (aL A, aT A, aQ A, aC A, aO A, aM A + 1, aD A) ((aT A).map (ent (aL A) (aM A + 1)))) := ⟨by
    show ((aT A).map _).length ≤ 8
    rw [List.length_map]; exact h8, hin⟩
  refine ⟨_, remove_l pg itm (fun g2 c2 _ p2 => ?_) _ 0 g (by rw [Nat.zero_add]) ⟨rfl, rfl, rfl, fun _ _ => rfl, fun _ _ => rfl, ?_, fun _ _ => rfl, fun i hi => pg.1.tR hi, fun i j hi hj e => pg.1.ti hi hj e, fun i t ht => by simp at ht, fun _ _ => rfl⟩⟩
  · have p3 : rpS g2 S (mnt A) := p2
    have iq : IQ (mnt A) := by
      refine IQ.of ⟨Nat.le_trans (List.length_filter_le _ _) (by rw [List.length_map]; exact h8), fun t ht => hin t (List.mem_filter.mp ht).1⟩ ?_ (fun t ht => ?_)
      · refine List.Pairwise.filter _ (List.pairwise_map.mpr (i.2.2.1.imp fun {t u} z => ?_))
        rw [(ent_n _ _ _).1, (ent_n _ _ _).1]
        exact z.1
      · obtain ⟨u, hu, e⟩ := List.mem_map.mp (List.mem_filter.mp ht).1
        rw [← e, (ent_n _ _ _).1]
        have := (i.2.1 u hu).2.2.2.1
        omega
    refine ⟨p2.1.o, c_considerQueue p3 iq (fun q hq => ?_) (fun g3 c3 p4 => k g3 ?_ p4)⟩
    · obtain ⟨u, hu, e, -⟩ := (i.2.2.2.2.1 q).mp hq
      have := (i.2.1 u hu).2.2.2.1
      omega
    · exact (((chi.uI (by omega) (by omega)).tr c).chg.tr c2).tr c3
  · have := pg.2.2.2.2.2.1
    rw [this]
    simp [aO, wT]
end MI
