/-! THE MODEL'S CHANGES: giving a route back; the contract -/
section FS
variable {h g : AH} {A : AG} {G : LG} {f F : Nat → Int32} {W : List Nat} {j : Nat}
theorem free_rm (k : GK A) (i : IMs A) (r : rm f A) {t : TG} (ht : (aT A)[j]? = some t) (hr : tr t ≠ []) (hq : (aQ A).length < 8) (hW : W = th_ t) {n : Nat} (hn : W.length = n) (u : frI f F (aL A) W n n) {F2 : Nat → Int32} (o : ∀ q, q ≠ 5 → q < 273 + (aQ A).length → ¬ (121 + 19 * j + 6 ≤ q ∧ q < 140 + 19 * j) → q ≠ 121 + 19 * j + 3 → q ≠ 121 + 19 * j + 4 → F2 q = F q) (e5 : F2 5 = nI ((aQ A).length + 1)) (e3 : F2 (121 + 19 * j + 3) = nI 0) (e6 : F2 (121 + 19 * j + 6) = nI 0) (eq : F2 (273 + (aQ A).length) = nI (tn t)) : rm F2 (wQ (upT A (tn t) (fun u => (tn u, tb u, td u, [], tu u, tl u))) (aQ A ++ [tn t])) := by
  obtain ⟨j8, tm_⟩ := i.j8 ht
  obtain ⟨u1, u3, u4, u7, u8⟩ := u
  obtain ⟨r1, r2, r3, r4, r5, r6⟩ := r
  have h12 := i.1.1
  have h8 := i.1.2.2.2.2.1
  have nd := (i.2.2.2.1 t tm_).2.1
  have hlast := th_last (k.2.2.2.1 t tm_) hr
  have hjl := (List.getElem?_eq_some_iff.mp ht).1
  have o2 : ∀ q, q ≠ 5 → q < 273 → ¬ (121 + 19 * j + 6 ≤ q ∧ q < 140 + 19 * j) → q ≠ 121 + 19 * j + 3 → q ≠ 121 + 19 * j + 4 → F2 q = F q := fun q a1 a2 a3 a4 a5 => o q a1 (by omega) a3 a4 a5
  have oo : ∀ q, q ≠ 5 → q < 273 + (aQ A).length → (∀ b, b < 12 → q ≠ 9 + 6 * b + 5) → (∀ p, p < 8 → q ≠ 81 + 5 * p + 4) → ¬ (121 + 19 * j + 6 ≤ q ∧ q < 140 + 19 * j) → q ≠ 121 + 19 * j + 3 → q ≠ 121 + 19 * j + 4 → F2 q = f q := fun q a1 a2 a3 a4 a5 a6 a7 => by
    rw [o q a1 a2 a5 a6 a7]; exact u1 q a3 a4
  generalize hφ : (fun u : TG => if tn u = tn t then ((tn u, tb u, td u, [], tu u, tl u) : TG) else u) = φ
  have hT : aT (wQ (upT A (tn t) (fun u => (tn u, tb u, td u, [], tu u, tl u))) (aQ A ++ [tn t])) = (aT A).map φ := by rw [← hφ]; rfl
  have φt : φ t = (tn t, tb t, td t, [], tu t, tl t) := by rw [← hφ]; exact if_pos rfl
  have φo : ∀ u ∈ aT A, u ≠ t → φ u = u := fun u hu hne => by
    rw [← hφ]
    exact if_neg (fun z => hne (pw_tn i.2.2.2.2 hu tm_ z))
  have φn : ∀ u, tn (φ u) = tn u := fun u => by
    rw [← hφ]
    show tn (if tn u = tn t then _ else u) = _
    by_cases z : tn u = tn t
    · rw [if_pos z]; rfl
    · rw [if_neg z]
  have φb : ∀ u, tb (φ u) = tb u := fun u => by
    rw [← hφ]
    show tb (if tn u = tn t then _ else u) = _
    by_cases z : tn u = tn t
    · rw [if_pos z]; rfl
    · rw [if_neg z]
  clear hφ
  refine ⟨⟨?_, ?_, ?_, ?_, ?_, ?_, ?_, ?_, ?_⟩, ?_, ?_, ?_, ⟨fun b hb => ⟨?_, ?_⟩, fun p hp => ?_⟩, fun i' q hq' => ?_⟩
  · rw [oo 0 (by omega) (by omega) (by omega) (by omega) (by omega) (by omega) (by omega)]; exact r1.1
  · rw [oo 1 (by omega) (by omega) (by omega) (by omega) (by omega) (by omega) (by omega)]; exact r1.2.1
  · rw [oo 2 (by omega) (by omega) (by omega) (by omega) (by omega) (by omega) (by omega)]; exact r1.2.2.1
  · rw [oo 3 (by omega) (by omega) (by omega) (by omega) (by omega) (by omega) (by omega)]; exact r1.2.2.2.1
  · rw [oo 4 (by omega) (by omega) (by omega) (by omega) (by omega) (by omega) (by omega), hT, List.length_map]; exact r1.2.2.2.2.1
  · rw [e5]
    show _ = nI (aQ A ++ [tn t]).length
    rw [List.length_append]; rfl
  · rw [oo 6 (by omega) (by omega) (by omega) (by omega) (by omega) (by omega) (by omega)]; exact r1.2.2.2.2.2.2.1
  · rw [oo 7 (by omega) (by omega) (by omega) (by omega) (by omega) (by omega) (by omega)]; exact r1.2.2.2.2.2.2.2.1
  · rw [oo 8 (by omega) (by omega) (by omega) (by omega) (by omega) (by omega) (by omega)]; exact r1.2.2.2.2.2.2.2.2
  · exact eB.cg (G := aL A) r2 (fun b k hb hk => oo _ (by omega) (by omega) (by omega) (by omega) (by omega) (by omega) (by omega))
  · exact eP.cg (G := aL A) r3 (fun p k hp hk => oo _ (by omega) (by omega) (by omega) (by omega) (by omega) (by omega) (by omega))
  · rw [hT]
    intro i' hi'
    refine ⟨fun u' hu' => ?_, fun z => ?_⟩
    · rw [List.getElem?_map] at hu'
      cases hu : (aT A)[i']? with
      | none => rw [hu] at hu'; cases hu'
      | some u0 =>
        rw [hu] at hu'
        have eu : φ u0 = u' := Option.some.inj hu'
        have hum : u0 ∈ aT A := List.mem_of_getElem? hu
        have rr := (r4 i' hi').1 u0 hu
        by_cases e : i' = j
        · subst e
          rw [ht] at hu
          cases hu
          rw [← eu, φt]
          obtain ⟨a0, a1, a2, -, -, a5, -, -⟩ := rr
          refine ⟨?_, ?_, ?_, e3, fun z => absurd rfl z, ?_, e6, fun z => absurd rfl z⟩
          · rw [oo _ (by omega) (by omega) (by omega) (by omega) (by omega) (by omega) (by omega)]; exact a0
          · rw [oo _ (by omega) (by omega) (by omega) (by omega) (by omega) (by omega) (by omega)]; exact a1
          · rw [oo _ (by omega) (by omega) (by omega) (by omega) (by omega) (by omega) (by omega)]; exact a2
          · rw [oo _ (by omega) (by omega) (by omega) (by omega) (by omega) (by omega) (by omega)]; exact a5
        · have hne : u0 ≠ t := fun z => e (pw_ix i.2.2.2.2 hu ht (by rw [z]))
          rw [φo u0 hum hne] at eu
          rw [← eu]
          exact rr.cg (i.th hum) (fun k hk => oo _ (by omega) (by omega) (by omega) (by omega) (by omega) (by omega) (by omega))
    · rw [List.length_map] at z
      rw [oo _ (by omega) (by omega) (by omega) (by omega) (by omega) (by omega) (by omega), oo _ (by omega) (by omega) (by omega) (by omega) (by omega) (by omega) (by omega), oo _ (by omega) (by omega) (by omega) (by omega) (by omega) (by omega) (by omega)]
      exact (r4 i' hi').2 z
  · rw [oo _ (by omega) (by omega) (by omega) (by omega) (by omega) (by omega) (by omega), (r5.1 b hb).1]
    congr 1
    unfold ocE
    rw [hT]
    exact (toE_map fun u _ => ⟨by rw [φb u], φn u⟩).symm
  · rw [o2 _ (by omega) (by omega) (by omega) (by omega) (by omega)]
    unfold rsE
    rw [hT]
    by_cases hbr : b ∈ tr t
    · obtain ⟨k', hk'⟩ := List.mem_iff_getElem?.mp hbr
      have hk2 : W[k' + 1]? = some b := by rw [hW]; exact (List.getElem?_cons_succ).trans hk'
      have hkl := (List.getElem?_eq_some_iff.mp hk2).1
      rw [u3 (k' + 1) b (by omega) (by omega) hk2]
      congr 1
      refine ((toE_z _).mpr (List.find?_eq_none.mpr (fun u' hu' hP => ?_))).symm
      obtain ⟨u0, hu0, rfl⟩ := List.mem_map.mp hu'
      have hP := of_decide_eq_true hP
      by_cases e : u0 = t
      · rw [e, φt] at hP
        exact absurd (show b ∈ ([] : List Nat) from hP) List.not_mem_nil
      · rw [φo u0 hu0 e] at hP
        exact e (pw_eq i.2.2.2.2 hu0 tm_ (List.mem_cons_of_mem _ hP) (List.mem_cons_of_mem _ hbr))
    · rw [u4 b hb (fun k' h1 h2 z => hbr (by
        obtain ⟨k9, rfl⟩ : ∃ k9, k' = k9 + 1 := ⟨k' - 1, by omega⟩
        rw [hW] at z
        exact List.mem_of_getElem? ((List.getElem?_cons_succ).symm.trans z))), (r5.1 b hb).2]
      congr 1
      refine (toE_map fun u hu => ⟨?_, φn u⟩).symm
      by_cases e : u = t
      · rw [e, φt]
        show decide (b ∈ ([] : List Nat)) = _
        simp [hbr]
      · rw [φo u hu e]
  · rw [o2 _ (by omega) (by omega) (by omega) (by omega) (by omega)]
    unfold lcE
    show _ = nI (lqE (wQ (upT A (tn t) (fun u => (tn u, tb u, td u, [], tu u, tl u))) (aQ A ++ [tn t])) (gp (aL A))[p]?)
    have r5p := r5.2 p hp
    unfold lcE at r5p
    cases hy : (gp (aL A))[p]? with
    | none =>
      rw [u8 p hp (fun k y _ _ _ z => by rw [hy] at z; cases z), r5p, hy]
      rfl
    | some y =>
      have hwl : W.getLast? = some (td t) := by rw [hW]; exact hlast
      have ndW : W.Nodup := by rw [hW]; exact nd
      have lastix : ∀ k, W[k]? = some (td t) → k + 1 = W.length := fun k hk => by
        rw [List.getLast?_eq_getElem?] at hwl
        have h1 := (List.getElem?_eq_some_iff.mp hk).1
        have : k = W.length - 1 := (List.getElem?_inj h1 ndW).mp (hk.trans hwl.symm)
        omega
      show _ = nI (toE (((aT (wQ (upT A (tn t) (fun u => (tn u, tb u, td u, [], tu u, tl u))) (aQ A ++ [tn t])))).find? _))
      rw [hT]
      by_cases hyW : y ∈ W ∧ y ≠ td t
      · obtain ⟨k', hk'⟩ := List.mem_iff_getElem?.mp hyW.1
        have hkl := (List.getElem?_eq_some_iff.mp hk').1
        have hk3 : k' + 1 < W.length := by
          by_cases z : k' + 1 < W.length
          · exact z
          · exfalso
            rw [List.getLast?_eq_getElem?, show W.length - 1 = k' by omega, hk'] at hwl
            exact hyW.2 (Option.some.inj hwl)
        rw [u7 k' y p (by omega) hk3 hk' hy]
        congr 1
        refine ((toE_z _).mpr (List.find?_eq_none.mpr (fun u' hu' hP => ?_))).symm
        obtain ⟨u0, hu0, rfl⟩ := List.mem_map.mp hu'
        obtain ⟨hP1, -, hP⟩ := of_decide_eq_true hP
        by_cases e : u0 = t
        · rw [e, φt] at hP1
          exact hP1 rfl
        · rw [φo u0 hu0 e] at hP
          exact e (pw_eq i.2.2.2.2 hu0 tm_ hP (by rw [← hW]; exact hyW.1))
      · rw [u8 p hp (fun k' y' h1 h2 h3 h4 => by
          rw [hy] at h4
          cases h4
          exact hyW ⟨List.mem_of_getElem? h3, fun z => by
            rw [z] at h3
            have := lastix k' h3
            omega⟩), r5p, hy]
        congr 1
        show toE ((aT A).find? _) = _
        refine (toE_map fun u hu => ⟨?_, φn u⟩).symm
        by_cases e : u = t
        · rw [e]
          have h1 : ¬ (tr t ≠ [] ∧ y ≠ td t ∧ y ∈ th_ t) := fun z => hyW ⟨by rw [hW]; exact z.2.2, z.2.1⟩
          have h2 : ¬ (tr (φ t) ≠ [] ∧ y ≠ td (φ t) ∧ y ∈ th_ (φ t)) := fun z => z.1 (by rw [φt]; rfl)
          simp only [h1, h2]
        · rw [φo u hu e]
  · have hq2 : (aQ A ++ [tn t])[i']? = some q := hq'
    have hl := (List.getElem?_eq_some_iff.mp hq2).1
    simp at hl
    by_cases e : i' < (aQ A).length
    · rw [List.getElem?_append_left e] at hq2
      rw [oo _ (by omega) (by omega) (by omega) (by omega) (by omega) (by omega) (by omega)]
      exact r6 i' q hq2
    · have ej : i' = (aQ A).length := by omega
      rw [ej, List.getElem?_append_right (Nat.le_refl _), Nat.sub_self] at hq2
      have : q = tn t := by simpa using hq2.symm
      rw [ej, this]
      exact eq
end FS
