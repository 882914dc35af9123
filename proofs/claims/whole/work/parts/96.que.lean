/-! THE MODEL'S MINUTE: the queue; passing -/
section QU
variable {h g : AH} {A : AG} {f F : Nat → Int32} {j : Nat} {t : TG}
def dly (A : AG) (num : Nat) : AG := let A1 := upT A num (fun u => (tn u, tb u, td u, tr u, tu u, tl u + 1)); (aL A1, aT A1, aQ A1, aC A1, aO A1, aM A1, aD A1 + 1)
theorem delay_rm (i : IMs A) (r : rm f A) (ht : (aT A)[j]? = some t) : rm (ups (ups f (121 + 19 * j + 5) (nI (tl t + 1))) 8 (nI (aD A + 1))) (dly A (tn t)) := by
  obtain ⟨j8, tm_⟩ := i.j8 ht
  obtain ⟨r1, r2, r3, r4, r5, r6⟩ := r
  have hq8 := i.2.2.1
  have o : ∀ q, q ≠ 8 → q ≠ 121 + 19 * j + 5 → ups (ups f (121 + 19 * j + 5) (nI (tl t + 1))) 8 (nI (aD A + 1)) q = f q := fun q h1 h2 => by rw [ups_o h1, ups_o h2]
  generalize hφ : (fun u : TG => if tn u = tn t then ((tn u, tb u, td u, tr u, tu u, tl u + 1) : TG) else u) = φ
  have hT : aT (dly A (tn t)) = (aT A).map φ := by rw [← hφ]; rfl
  have φt : φ t = (tn t, tb t, td t, tr t, tu t, tl t + 1) := by rw [← hφ]; exact if_pos rfl
  have φo : ∀ u ∈ aT A, u ≠ t → φ u = u := fun u hu hne => by
    rw [← hφ]
    exact if_neg (fun z => hne (pw_tn i.2.2.2.2 hu tm_ z))
  have φa : ∀ u, tn (φ u) = tn u ∧ tb (φ u) = tb u ∧ td (φ u) = td u ∧ tr (φ u) = tr u ∧ th_ (φ u) = th_ u := fun u => by
    rw [← hφ]
    show tn (if tn u = tn t then _ else u) = _ ∧ tb (if tn u = tn t then _ else u) = _ ∧ td (if tn u = tn t then _ else u) = _ ∧ tr (if tn u = tn t then _ else u) = _ ∧ th_ (if tn u = tn t then _ else u) = _
    by_cases z : tn u = tn t
    · rw [if_pos z]; exact ⟨rfl, rfl, rfl, rfl, rfl⟩
    · rw [if_neg z]; exact ⟨rfl, rfl, rfl, rfl, rfl⟩
  clear hφ
  refine ⟨⟨?_, ?_, ?_, ?_, ?_, ?_, ?_, ?_, ?_⟩, ?_, ?_, ?_, ⟨fun b hb => ⟨?_, ?_⟩, fun p hp => ?_⟩, ?_⟩
  · rw [o 0 (by omega) (by omega)]; exact r1.1
  · rw [o 1 (by omega) (by omega)]; exact r1.2.1
  · rw [o 2 (by omega) (by omega)]; exact r1.2.2.1
  · rw [o 3 (by omega) (by omega)]; exact r1.2.2.2.1
  · rw [o 4 (by omega) (by omega), hT, List.length_map]; exact r1.2.2.2.2.1
  · rw [o 5 (by omega) (by omega)]; exact r1.2.2.2.2.2.1
  · rw [o 6 (by omega) (by omega)]; exact r1.2.2.2.2.2.2.1
  · rw [o 7 (by omega) (by omega)]; exact r1.2.2.2.2.2.2.2.1
  · rw [ups_s]; rfl
  · exact eB.cg (G := aL A) r2 (fun b k hb hk => o _ (by omega) (by omega))
  · exact eP.cg (G := aL A) r3 (fun p k hp hk => o _ (by omega) (by omega))
  · rw [hT]
    intro i' hi'
    refine ⟨fun u' hu' => ?_, fun z => ?_⟩
    · rw [List.getElem?_map] at hu'
      cases hu : (aT A)[i']? with
      | none => rw [hu] at hu'; cases hu'
      | some u0 =>
        rw [hu] at hu'
        have eu : φ u0 = u' := Option.some.inj hu'
        have hum : u0 ∈ aT A := List.mem_of_getElem? hu
        have rr := (r4 i' hi').1 u0 hu
        by_cases e : i' = j
        · subst e
          rw [ht] at hu
          cases hu
          rw [← eu, φt]
          obtain ⟨a0, a1, a2, a3, a4, a5, a6, a7⟩ := rr
          refine ⟨?_, ?_, ?_, ?_, fun z => ?_, ?_, ?_, fun z k c hk => ?_⟩
          · rw [o _ (by omega) (by omega)]; exact a0
          · rw [o _ (by omega) (by omega)]; exact a1
          · rw [o _ (by omega) (by omega)]; exact a2
          · rw [o _ (by omega) (by omega)]; exact a3
          · rw [o _ (by omega) (by omega)]; exact a4 z
          · rw [ups_o (by omega), ups_s]; rfl
          · rw [o _ (by omega) (by omega)]; exact a6
          · rw [o _ (by omega) (by omega)]; exact a7 z k c hk
        · have hne : u0 ≠ t := fun z => e (pw_ix i.2.2.2.2 hu ht (by rw [z]))
          rw [φo u0 hum hne] at eu
          rw [← eu]
          exact rr.cg (i.th hum) (fun k hk => o _ (by omega) (by omega))
    · rw [List.length_map] at z
      have hjl := (List.getElem?_eq_some_iff.mp ht).1
      rw [o _ (by omega) (by omega), o _ (by omega) (by omega), o _ (by omega) (by omega)]
      exact (r4 i' hi').2 z
  · rw [o _ (by omega) (by omega), (r5.1 b hb).1]
    congr 1
    unfold ocE
    rw [hT]
    exact (toE_map fun u _ => ⟨by rw [(φa u).2.1], (φa u).1⟩).symm
  · rw [o _ (by omega) (by omega), (r5.1 b hb).2]
    congr 1
    unfold rsE
    rw [hT]
    exact (toE_map fun u _ => ⟨by rw [(φa u).2.2.2.1], (φa u).1⟩).symm
  · rw [o _ (by omega) (by omega), r5.2 p hp]
    congr 1
    unfold lcE
    show lqE A (gp (aL A))[p]? = lqE (dly A (tn t)) (gp (aL A))[p]?
    cases (gp (aL A))[p]? with
    | none => rfl
    | some y =>
      show toE ((aT A).find? _) = toE ((aT (dly A (tn t))).find? _)
      rw [hT]
      exact (toE_map fun u _ => ⟨by rw [(φa u).2.2.2.1, (φa u).2.2.1, (φa u).2.2.2.2], (φa u).1⟩).symm
  · exact r6.cg hq8 (fun i hi => o _ (by omega) (by omega))
theorem m_L73 (s : sM h) {X : AH → Prop} : ∀ (rest : List Nat) (A : AG) (pre : List Nat) (g : AH), GK (wQ A (pre ++ rest)) → aC A ≤ 9000 → aM A < 2 ^ 30 → mf [607, 614, 615, 616] [20] h g → rm (mI g 607) (wQ A (pre ++ rest)) → (∀ g, mf [607, 614, 615, 616] [20] h g → rm (mI g 607) (wQ (qGo A rest).1 (pre ++ (qGo A rest).2)) → X g) → wX10_oneMinute_L73 X (rest.length + 1) 606 (nI pre.length) g := by
  intro rest
  induction rest with
  | nil =>
    intro A pre g k hC hM cg r kk
    have s' := cg.s s
    have e5 : mI g 607 5 = nI (pre ++ []).length := r.1.2.2.2.2.2.1
    have hq := k.2.2.q8
    have hq' : (pre ++ []).length ≤ 8 := hq
    rw [List.append_nil] at e5 hq'
    rw [List.length_nil, wX10_oneMinute_L73]; dsimp only
    simp (disch := omega) only [s'.o, s'.r1, s'.a7, s'.l7, nz7, nI_add, pk_mul, nI_clamp, nI_leI, nI_ltI, nI_eq, vp_in_nI, true_and, e5]
    exact ⟨fun _ => kk g cg r, fun z => absurd (Nat.le_refl _) z⟩
  | cons num rest ih =>
    intro A pre g k hC hM cg r kk
    have s' := cg.s s
    have i := k.ims (A := wQ A (pre ++ num :: rest)) hC
    have e5 : mI g 607 5 = nI (pre ++ num :: rest).length := r.1.2.2.2.2.2.1
    have hq : (pre ++ num :: rest).length ≤ 8 := k.2.2.q8
    rw [List.length_append, List.length_cons] at e5 hq
    have hqi : (aQ (wQ A (pre ++ num :: rest)))[pre.length]? = some num := by
      show (pre ++ num :: rest)[pre.length]? = _
      rw [List.getElem?_append_right (Nat.le_refl _), Nat.sub_self]; rfl
    have eq := r.2.2.2.2.2 pre.length num hqi
    have hm : num ∈ aQ (wQ A (pre ++ num :: rest)) := List.mem_append_right _ List.mem_cons_self
    obtain ⟨t0, hf, ht0, e1, e2⟩ := fnd_q k.2.2 (show aC A < 2 ^ 31 by omega) hm
    have hf' : fnd A (nI num) = some t0 := hf
    have nd : (pre ++ num :: rest).Nodup := k.2.2.2.2.2.1
    obtain ⟨n1, n2, n3⟩ := List.nodup_append.mp nd
    rw [List.length_cons, wX10_oneMinute_L73]; dsimp only
    simp (disch := omega) only [s'.o, s'.r1, s'.a7, s'.l7, nz7, nI_add, pk_mul, nI_clamp, nI_leI, nI_ltI, nI_eq, vp_in_nI, true_and, e5, eq]
    refine ⟨fun z => absurd z (by omega), fun _ => ?_⟩
    refine m_placeOf s' i r (fun hn => ?_) (fun j t ht hft _ => ?_)
    · rw [hf] at hn; cases hn
    rw [hf] at hft
    cases hft
    obtain ⟨j8, tm_⟩ := i.j8 ht
    have hne : tb t0 ≠ td t0 := (k.2.2.2.1 t0 tm_).2.2.1
    refine ⟨s'.o, m_isFree s' i k.2.1 r ht hne (fun g2 c2 => ?_)⟩
    have s2 := c2.s s'
    have r2 := r.fr c2 (by decide)
    have cg2 : mf [607, 614, 615, 616] [20] h g2 := cg.tr (c2.mo (by decide) (by decide))
    have hcan0 : can (wQ A (pre ++ num :: rest)) t0 = can A t0 := rfl
    rw [hcan0]
    by_cases hc : can A t0 = true
    · rw [if_pos hc]
      refine ⟨fun z => absurd z (by decide), fun _ => ⟨s2.o, ?_⟩⟩
      refine m_sets k i hM s2 r2 ht hc (fun g3 c3 r3 => ?_)
      have hfil : (pre ++ num :: rest).filter (fun q => decide (q ≠ tn t0)) = pre ++ rest := by
        rw [e1, ← eraseIdx_filter _ pre.length nd (by rw [List.getElem?_append_right (Nat.le_refl _), Nat.sub_self]; rfl)]
        rw [List.eraseIdx_append_of_length_le (Nat.le_refl _), Nat.sub_self]; rfl
      have r4 : rm (mI g3 607) (wQ (setT A t0) (pre ++ rest)) := by
        have := r3
        rw [show aQ (wQ A (pre ++ num :: rest)) = pre ++ num :: rest from rfl, hfil] at this
        exact this
      have qg : qGo A (num :: rest) = qGo (setT A t0) rest := by
        rw [qGo, hf']; simp only
        rw [if_pos hc]
      rw [qg] at kk
      refine ih (setT A t0) pre g3 (gk_setT (A := wQ A (pre ++ num :: rest)) k ht0 hc (Q := pre ++ rest) ?_ (fun x => ?_)) hC hM (cg2.tr c3) r4 kk
      · exact List.nodup_append.mpr ⟨n1, (List.nodup_cons.mp n2).2, fun a ha b hb => n3 a ha b (List.mem_cons_of_mem _ hb)⟩
      · show x ∈ pre ++ rest ↔ x ≠ tn t0 ∧ x ∈ pre ++ num :: rest
        rw [e1, List.mem_append, List.mem_append, List.mem_cons]
        constructor
        · rintro (z | z)
          · exact ⟨fun y => n3 x z num List.mem_cons_self y, Or.inl z⟩
          · exact ⟨fun y => (List.nodup_cons.mp n2).1 (y ▸ z), Or.inr (Or.inr z)⟩
        · rintro ⟨y, z | z | z⟩
          · exact Or.inl z
          · exact absurd z y
          · exact Or.inr z
    · rw [if_neg hc]
      refine ⟨fun _ => ?_, fun z => absurd rfl z⟩
      have et := r2.t j8 ht
      have e8 : mI g2 607 8 = nI (aD A) := r2.1.2.2.2.2.2.2.2.2
      simp (disch := omega) only [s2.o, m_train s2 j8, et.2.2.2.2.2.1, nI_add, pk_mul, nI_clamp, nI_leI, nI_ltI, nI_eq, vp_in_nI, true_and, m_tells s2 j8 (show 5 < 19 by decide), isO_uI, isA_uI, ln_uI, mR_uI, isO_uR, isA_uR, ln_uR, mI_uR, isO_uL, isA_uL, ln_uL, mR_uL, mI_uL, mL_uI, mL_uR, isO_uA, isA_uA, ln_uA, mR_uA, mL_uA, mS_uI, mS_uR, mS_uL, mS_uA, s2.r1, s2.a7, s2.l7, nz7, mI_up, ups_o, e8, forall_eq]
      have c4 : mf [607] [] g2 (uI (uI g2 607 (121 + 19 * j + 5) (nI (tl t0 + 1))) 607 8 (nI (aD A + 1))) := (mf.ui (by decide) (by decide)).tr (mf.ui (by decide) (by decide))
      have r4 := delay_rm i r2 ht
      have qg : qGo A (num :: rest) = ((qGo (dly A num) rest).1, num :: (qGo (dly A num) rest).2) := by
        rw [qGo, hf']; simp only
        rw [if_neg hc]; rfl
      rw [qg] at kk
      have h1 := gk_delay k ht0
      rw [e1] at h1
      have h2 := ih (dly A num) (pre ++ [num]) (uI (uI g2 607 (121 + 19 * j + 5) (nI (tl t0 + 1))) 607 8 (nI (aD A + 1))) (by rw [List.append_assoc]; exact h1) hC hM (cg2.tr (c4.mo (by decide) (by decide))) (by
        rw [mI_up, mI_up, List.append_assoc]
        rw [e1] at r4
        exact r4) (fun g5 c5 r5 => kk g5 c5 (by rw [List.append_assoc] at r5; exact r5))
      rw [List.length_append] at h2
      exact h2
theorem m_oneMinute (k : GK A) (hC : aC A ≤ 9000) (hM : aM A < 2 ^ 29) (s : sM h) (r : rm (mI h 607) A) {K : AH → Prop} (kk : ∀ g, mf [607, 614, 615, 616] [20] h g → rm (mI g 607) (min1 A) → K g) : wX10_oneMinute 606 h K := by
  have e6 := r.1.2.2.2.2.2.2.1
  have hO : (aT A).length + aO A = aC A := k.2.2.2.2.2.2.2.1
  unfold wX10_oneMinute
  simp (disch := omega) only [s.o, s.r1, s.a7, s.l7, nz7, nI_add, pk_mul, nI_clamp, nI_leI, nI_ltI, nI_eq, vp_in_nI, true_and, forall_eq, e6]
  have c1 : mf [607] [] h (uI h 607 6 (nI (aM A + 1))) := mf.ui (by decide) (by decide)
  have i := k.imm hC
  have r1 : rm (mI (uI h 607 6 (nI (aM A + 1))) 607) (stM A ([] ++ aT A) (aO A)) := by
    rw [mI_up]
    obtain ⟨⟨a0, a1, a2, a3, a4, a5, a6, a7, a8⟩, r2, r3, r4, r5, r6⟩ := r
    refine ⟨⟨?_, ?_, ?_, ?_, ?_, ?_, ?_, ?_, ?_⟩, eB.cg (G := aL A) r2 (fun b k hb hk => ups_o (by omega)), eP.cg (G := aL A) r3 (fun b k hb hk => ups_o (by omega)), eT.cg (T := aT A) r4 (fun t ht => i.1.th ht) (fun b k hb hk => ups_o (by omega)), eK.cg (A := stM A (aT A) (aO A)) r5 (fun b hb => ups_o (by omega)) (fun b hb => ups_o (by omega)) (fun b hb => ups_o (by omega)), eQ.cg (Q := aQ A) r6 i.1.2.2.1 (fun i hi => ups_o (by omega))⟩
    · rw [ups_o (by omega)]; exact a0
    · rw [ups_o (by omega)]; exact a1
    · rw [ups_o (by omega)]; exact a2
    · rw [ups_o (by omega)]; exact a3
    · rw [ups_o (by omega)]; exact a4
    · rw [ups_o (by omega)]; exact a5
    · rw [ups_s]; rfl
    · rw [ups_o (by omega)]; exact a7
    · rw [ups_o (by omega)]; exact a8
  refine ⟨(aT A).length + 1, ?_⟩
  refine m_L13 k hC hM (c1.s s) (fun g2 c2 r2 => ⟨(aQ A).length + 1, ?_⟩) (aT A) [] (aO A) _ (mf.rf _ _ _) r1 i (fun t ht => ht) rfl rfl (by omega)
  have cc : mf [607, 614, 615, 616] [20] h g2 := (c1.tr c2).mo (by decide) (by decide)
  exact m_L73 s (aQ A) (mnt A) [] g2 (gk_mnt k) hC (show aM A + 1 < 2 ^ 30 by omega) cc r2 (fun g3 c3 r3 => kk g3 c3 r3)
end QU
