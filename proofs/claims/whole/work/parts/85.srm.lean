/-! THE MODEL SETS A ROUTE: what it has set -/
section SR
variable {h g : AH} {A : AG} {f F : Nat → Int32} {num j : Nat}
theorem GK.ims (k : GK A) (hC : aC A ≤ 9000) : IMs A := by
  have ip := k.2.2
  refine ⟨k.1, ip.1, ip.q8, fun t ht => ?_, ip.2.2.1⟩
  obtain ⟨k1, k2, k3, k4, k5, -, -, k8, -⟩ := ip.2.1 t ht
  exact ⟨⟨k1, k2, k5⟩, k8, by omega⟩
theorem toE_of {T : List TG} {P : TG → Bool} {t : TG} (ht : t ∈ T) (hP : P t = true) (hu : ∀ u ∈ T, P u = true → tn u = tn t) : toE (T.find? P) = tn t + 1 := by
  cases hf : T.find? P with
  | none =>
    have := (List.find?_eq_none.mp hf) t ht
    rw [hP] at this
    exact absurd rfl this
  | some u =>
    have h1 := List.mem_of_find?_eq_some hf
    have h2 := List.find?_some hf
    show tn u + 1 = _
    rw [hu u h1 h2]
theorem toE_map {T : List TG} {P Q : TG → Bool} {φ : TG → TG} (h : ∀ u ∈ T, P (φ u) = Q u ∧ tn (φ u) = tn u) : toE ((T.map φ).find? P) = toE (T.find? Q) := by
  induction T with
  | nil => rfl
  | cons u T ih =>
    obtain ⟨h1, h2⟩ := h u List.mem_cons_self
    have ih' := ih (fun v hv => h v (List.mem_cons_of_mem _ hv))
    rw [List.map_cons, List.find?_cons, List.find?_cons, h1]
    cases Q u with
    | true => show tn (φ u) + 1 = tn u + 1; rw [h2]
    | false => exact ih'
theorem pw_tn {T : List TG} (h : T.Pairwise (fun t u => tn t < tn u ∧ ∀ b ∈ th_ t, b ∉ th_ u)) {t u : TG} (ht : t ∈ T) (hu : u ∈ T) (e : tn t = tn u) : t = u := by
  induction T with
  | nil => cases ht
  | cons v T ih =>
    obtain ⟨p1, p2⟩ := List.pairwise_cons.mp h
    rcases List.mem_cons.mp ht with e1 | e1 <;> rcases List.mem_cons.mp hu with e2 | e2
    · rw [e1, e2]
    · have := (p1 u e2).1; rw [← e1, e] at this; exact absurd this (Nat.lt_irrefl _)
    · have := (p1 t e1).1; rw [← e2, ← e] at this; exact absurd this (Nat.lt_irrefl _)
    · exact ih p2 e1 e2
theorem pw_ix {T : List TG} (h : T.Pairwise (fun t u => tn t < tn u ∧ ∀ b ∈ th_ t, b ∉ th_ u)) {i j : Nat} {t u : TG} (ht : T[i]? = some t) (hu : T[j]? = some u) (e : tn t = tn u) : i = j := by
  obtain ⟨h1, h2⟩ := List.getElem?_eq_some_iff.mp ht
  obtain ⟨h3, h4⟩ := List.getElem?_eq_some_iff.mp hu
  rw [List.pairwise_iff_getElem] at h
  rcases Nat.lt_trichotomy i j with z | z | z
  · have := (h i j h1 h3 z).1; rw [h2, h4] at this; omega
  · exact z
  · have := (h j i h3 h1 z).1; rw [h2, h4] at this; omega
theorem set_rm (k : GK A) (i : IMs A) (r : rm f A) {t : TG} (ht : (aT A)[j]? = some t) (hc : can A t = true) {W : List Nat} (hW : W = tb t :: rtT A t) {n : Nat} (hn : W.length = n) {M : Nat} (hM : M = tms (aL A) (gd (aL A)) (tb t) (rtT A t)) (u : stI f F (aL A) W (tn t) j n n n M) {F2 : Nat → Int32} {Q : List Nat} (e2 : uqI (ups (ups (ups F (121 + 19 * j + 6) (nI n)) (121 + 19 * j + 3) (nI 1)) (121 + 19 * j + 4) (nI (aM A + gl (aL A) ((rtT A t).headD 0)))) F2 Q) : rm F2 (wQ (setT A t) Q) := by
  obtain ⟨j8, tm_⟩ := i.j8 ht
  obtain ⟨q1, q2, q3, -, q5, q6, q7⟩ := rt_in k tm_ hc
  obtain ⟨u1, u2, u3, u4, u5, u6, u7, u8⟩ := u
  obtain ⟨v5, vq, v⟩ := e2
  obtain ⟨r1, r2, r3, r4, r5, r6⟩ := r
  have h12 := i.1.1
  have h8 := i.1.2.2.2.2.1
  have hn0 : n = (rtT A t).length + 1 := by rw [← hn, hW]; rfl
  have hn12 : n ≤ 12 := by
    have := nodup_le (gn (aL A)) _ q2 (fun y hy => by
      rcases List.mem_cons.mp hy with rfl | hy
      · exact (i.2.2.2.1 t tm_).1.1
      · exact q1 y hy)
    simp only [List.length_cons] at this
    omega
  have hwn : ∀ y ∈ W, y < gn (aL A) := fun y hy => by
    rw [hW] at hy
    rcases List.mem_cons.mp hy with rfl | hy
    · exact (i.2.2.2.1 t tm_).1.1
    · exact q1 y hy
  have hG : tnr (aL A) (tb t) (rtT A t) = gSide (aL A) M := by
    have := tnr_tms (G := aL A) (rtT A t) (gd (aL A)) (tb t)
    rw [gSide_self] at this
    rw [this, hM]
  have o : ∀ q, q ≠ 5 → q < 273 → (∀ b, b < 12 → q ≠ 9 + 6 * b + 5) → (∀ p, p < 8 → q ≠ 81 + 5 * p + 3 ∧ q ≠ 81 + 5 * p + 4) → ¬ (128 + 19 * j ≤ q ∧ q < 140 + 19 * j) → q ≠ 121 + 19 * j + 6 → q ≠ 121 + 19 * j + 3 → q ≠ 121 + 19 * j + 4 → F2 q = f q := fun q a1 a2 a3 a4 a5 a6 a7 a8 => by
    rw [v q a1 a2, ups_o a8, ups_o a7, ups_o a6]
    exact u1 q a3 a4 a5
  have o2 : ∀ q, q ≠ 5 → q < 273 → q ≠ 121 + 19 * j + 6 → q ≠ 121 + 19 * j + 3 → q ≠ 121 + 19 * j + 4 → F2 q = F q := fun q a1 a2 a6 a7 a8 => by
    rw [v q a1 a2, ups_o a8, ups_o a7, ups_o a6]
  generalize hφ : (fun u : TG => if tn u = tn t then ((tn u, tb u, td u, rtT A t, aM A + gl (aL A) ((rtT A t).headD 0), tl u) : TG) else u) = φ
  have hT : aT (wQ (setT A t) Q) = (aT A).map φ := by rw [← hφ]; rfl
  have φt : φ t = (tn t, tb t, td t, rtT A t, aM A + gl (aL A) ((rtT A t).headD 0), tl t) := by rw [← hφ]; exact if_pos rfl
  have φo : ∀ u ∈ aT A, u ≠ t → φ u = u := fun u hu hne => by
    rw [← hφ]
    exact if_neg (fun z => hne (pw_tn i.2.2.2.2 hu tm_ z))
  have φn : ∀ u, tn (φ u) = tn u := fun u => by
    rw [← hφ]
    show tn (if tn u = tn t then _ else u) = _
    by_cases z : tn u = tn t
    · rw [if_pos z]; rfl
    · rw [if_neg z]
  have φb : ∀ u, tb (φ u) = tb u := fun u => by
    rw [← hφ]
    show tb (if tn u = tn t then _ else u) = _
    by_cases z : tn u = tn t
    · rw [if_pos z]; rfl
    · rw [if_neg z]
  clear hφ
  have hL : aL (wQ (setT A t) Q) = gSide (aL A) M := hG
  refine ⟨⟨?_, ?_, ?_, ?_, ?_, ?_, ?_, ?_, ?_⟩, ?_, ?_, ?_, ⟨fun b hb => ⟨?_, ?_⟩, fun p hp => ?_⟩, vq⟩
  · rw [o 0 (by omega) (by omega) (by omega) (by omega) (by omega) (by omega) (by omega) (by omega), hL]; exact r1.1
  · rw [o 1 (by omega) (by omega) (by omega) (by omega) (by omega) (by omega) (by omega) (by omega), hL]; exact r1.2.1
  · rw [o 2 (by omega) (by omega) (by omega) (by omega) (by omega) (by omega) (by omega) (by omega), hL]; exact r1.2.2.1
  · rw [o 3 (by omega) (by omega) (by omega) (by omega) (by omega) (by omega) (by omega) (by omega)]; exact r1.2.2.2.1
  · rw [o 4 (by omega) (by omega) (by omega) (by omega) (by omega) (by omega) (by omega) (by omega), hT, List.length_map]; exact r1.2.2.2.2.1
  · exact v5
  · rw [o 6 (by omega) (by omega) (by omega) (by omega) (by omega) (by omega) (by omega) (by omega)]; exact r1.2.2.2.2.2.2.1
  · rw [o 7 (by omega) (by omega) (by omega) (by omega) (by omega) (by omega) (by omega) (by omega)]; exact r1.2.2.2.2.2.2.2.1
  · rw [o 8 (by omega) (by omega) (by omega) (by omega) (by omega) (by omega) (by omega) (by omega)]; exact r1.2.2.2.2.2.2.2.2
  · rw [hL]
    exact eB.cg (G := gSide (aL A) M) r2 (fun b k hb hk => o _ (by omega) (by omega) (by omega) (by omega) (by omega) (by omega) (by omega) (by omega))
  · rw [hL]
    intro p hp
    refine ⟨fun y hy => ?_, fun z => ?_⟩
    · have hy' : (gp (aL A))[p]? = some y := hy
      obtain ⟨s1, s2, s3, s4⟩ := (r3 p hp).1 y hy'
      refine ⟨?_, ?_, ?_, ?_⟩
      · rw [o _ (by omega) (by omega) (by omega) (by omega) (by omega) (by omega) (by omega) (by omega)]; exact s1
      · rw [o _ (by omega) (by omega) (by omega) (by omega) (by omega) (by omega) (by omega) (by omega)]; exact s2
      · rw [o _ (by omega) (by omega) (by omega) (by omega) (by omega) (by omega) (by omega) (by omega)]; exact s3
      · rw [o2 _ (by omega) (by omega) (by omega) (by omega) (by omega)]; exact u5 p y hy'
    · have z' : (gp (aL A)).length ≤ p := z
      rw [o2 _ (by omega) (by omega) (by omega) (by omega) (by omega), u6 p hp z']
      exact (r3 p hp).2 z'
  · rw [hT]
    intro i' hi'
    refine ⟨fun u' hu' => ?_, fun z => ?_⟩
    · rw [List.getElem?_map] at hu'
      cases hu : (aT A)[i']? with
      | none => rw [hu] at hu'; cases hu'
      | some u0 =>
        rw [hu] at hu'
        have eu : φ u0 = u' := Option.some.inj hu'
        have hum : u0 ∈ aT A := List.mem_of_getElem? hu
        have rr := (r4 i' hi').1 u0 hu
        by_cases e : i' = j
        · subst e
          rw [ht] at hu
          cases hu
          rw [← eu, φt]
          obtain ⟨a0, a1, a2, -, -, a5, -, -⟩ := rr
          refine ⟨?_, ?_, ?_, ?_, fun _ => ?_, ?_, ?_, fun _ k c hkc => ?_⟩
          · rw [o _ (by omega) (by omega) (by omega) (by omega) (by omega) (by omega) (by omega) (by omega)]; exact a0
          · rw [o _ (by omega) (by omega) (by omega) (by omega) (by omega) (by omega) (by omega) (by omega)]; exact a1
          · rw [o _ (by omega) (by omega) (by omega) (by omega) (by omega) (by omega) (by omega) (by omega)]; exact a2
          · rw [v _ (by omega) (by omega), ups_o (by omega), ups_s]
            show nI 1 = nI (if rtT A t = [] then 0 else 1)
            rw [if_neg q3]
          · rw [v _ (by omega) (by omega), ups_s]; rfl
          · rw [o _ (by omega) (by omega) (by omega) (by omega) (by omega) (by omega) (by omega) (by omega)]; exact a5
          · rw [v _ (by omega) (by omega), ups_o (by omega), ups_o (by omega), ups_s]
            show nI n = nI (if rtT A t = [] then 0 else (rtT A t).length + 1)
            rw [if_neg q3, hn0]
          · have hkc' : W[k]? = some c := by rw [hW]; exact hkc
            have hkl := (List.getElem?_eq_some_iff.mp hkc').1
            rw [o2 _ (by omega) (by omega) (by omega) (by omega) (by omega)]
            exact u2 k c (by omega) hkc'
        · have hne : u0 ≠ t := fun z => e (pw_ix i.2.2.2.2 hu ht (by rw [z]))
          rw [φo u0 hum hne] at eu
          rw [← eu]
          exact rr.cg (i.th hum) (fun k hk => o _ (by omega) (by omega) (by omega) (by omega) (by omega) (by omega) (by omega) (by omega))
    · rw [List.length_map] at z
      have hjl := (List.getElem?_eq_some_iff.mp ht).1
      rw [o _ (by omega) (by omega) (by omega) (by omega) (by omega) (by omega) (by omega) (by omega), o _ (by omega) (by omega) (by omega) (by omega) (by omega) (by omega) (by omega) (by omega), o _ (by omega) (by omega) (by omega) (by omega) (by omega) (by omega) (by omega) (by omega)]
      exact (r4 i' hi').2 z
  · rw [o _ (by omega) (by omega) (by omega) (by omega) (by omega) (by omega) (by omega) (by omega), (r5.1 b hb).1]
    congr 1
    unfold ocE
    rw [hT]
    exact (toE_map fun u _ => ⟨by rw [φb u], φn u⟩).symm
  · rw [o2 _ (by omega) (by omega) (by omega) (by omega) (by omega)]
    unfold rsE
    rw [hT]
    by_cases hbr : b ∈ rtT A t
    · obtain ⟨k', hk'⟩ := List.mem_iff_getElem?.mp hbr
      have hk2 : W[k' + 1]? = some b := by rw [hW, List.getElem?_cons_succ]; exact hk'
      have hkl := (List.getElem?_eq_some_iff.mp hk2).1
      rw [u3 (k' + 1) b (by omega) (by omega) hk2, ← φn t]
      congr 1
      refine (toE_of (List.mem_map_of_mem tm_) (decide_eq_true (by rw [φt]; exact hbr)) (fun u' hu' hP => ?_)).symm
      obtain ⟨u0, hu0, rfl⟩ := List.mem_map.mp hu'
      by_cases e : u0 = t
      · rw [e]
      · have hP := of_decide_eq_true hP
        rw [φo u0 hu0 e] at hP
        exact absurd (List.mem_cons_of_mem _ hP) (fre_f (q6 b hbr) hu0)
    · rw [u4 b hb (fun k' h1 h2 z => hbr (by
        obtain ⟨k9, rfl⟩ : ∃ k9, k' = k9 + 1 := ⟨k' - 1, by omega⟩
        rw [hW, List.getElem?_cons_succ] at z
        exact List.mem_of_getElem? z)), (r5.1 b hb).2]
      congr 1
      refine (toE_map fun u hu => ⟨?_, φn u⟩).symm
      by_cases e : u = t
      · rw [e, φt]
        have : b ∉ tr t := by rw [q7]; exact List.not_mem_nil
        simp only [this]
        show decide (b ∈ rtT A t) = _
        simp [hbr]
      · rw [φo u hu e]
  · rw [o2 _ (by omega) (by omega) (by omega) (by omega) (by omega)]
    unfold lcE
    rw [hL]
    show _ = nI (lqE (wQ (setT A t) Q) (gp (aL A))[p]?)
    have r5p := r5.2 p hp
    unfold lcE at r5p
    cases hy : (gp (aL A))[p]? with
    | none =>
      rw [u8 p hp (fun k y _ _ _ z => by rw [hy] at z; cases z), r5p, hy]
      rfl
    | some y =>
      have hwl : W.getLast? = some (td t) := by
        rw [hW]
        cases hr : rtT A t with
        | nil => exact absurd hr q3
        | cons c l => rw [List.getLast?_cons_cons, ← hr]; exact q5
      have ndW : W.Nodup := by rw [hW]; exact q2
      have lastix : ∀ k, W[k]? = some (td t) → k + 1 = W.length := fun k hk => by
        rw [List.getLast?_eq_getElem?] at hwl
        have h1 := (List.getElem?_eq_some_iff.mp hk).1
        have : k = W.length - 1 := (List.getElem?_inj h1 ndW).mp (hk.trans hwl.symm)
        omega
      have thφ : th_ (φ t) = W := by rw [φt, hW]; rfl
      show _ = nI (toE (((aT (wQ (setT A t) Q))).find? _))
      rw [hT]
      by_cases hyW : y ∈ W ∧ y ≠ td t
      · obtain ⟨k', hk'⟩ := List.mem_iff_getElem?.mp hyW.1
        have hkl := (List.getElem?_eq_some_iff.mp hk').1
        have hk3 : k' + 1 < W.length := by
          by_cases z : k' + 1 < W.length
          · exact z
          · exfalso
            rw [List.getLast?_eq_getElem?, show W.length - 1 = k' by omega, hk'] at hwl
            exact hyW.2 (Option.some.inj hwl)
        rw [u7 k' y p (by omega) hk3 hk' hy, ← φn t]
        congr 1
        have hd9 : tr (φ t) ≠ [] ∧ y ≠ td (φ t) ∧ y ∈ th_ (φ t) := ⟨by rw [φt]; exact q3, by rw [φt]; exact hyW.2, by rw [thφ]; exact hyW.1⟩
        refine (toE_of (List.mem_map_of_mem tm_) (decide_eq_true hd9) (fun u' hu' hP => ?_)).symm
        obtain ⟨u0, hu0, rfl⟩ := List.mem_map.mp hu'
        by_cases e : u0 = t
        · rw [e]
        · obtain ⟨-, -, hP⟩ := of_decide_eq_true hP
          rw [φo u0 hu0 e] at hP
          exfalso
          have := hyW.1
          rw [hW] at this
          rcases List.mem_cons.mp this with z | z
          · exact e (pw_eq i.2.2.2.2 hu0 tm_ hP (by rw [z]; exact List.mem_cons_self))
          · exact fre_f (q6 y z) hu0 hP
      · rw [u8 p hp (fun k' y' h1 h2 h3 h4 => by
          rw [hy] at h4
          cases h4
          exact hyW ⟨List.mem_of_getElem? h3, fun z => by
            rw [z] at h3
            have := lastix k' h3
            omega⟩), r5p, hy]
        congr 1
        show toE ((aT A).find? _) = _
        refine (toE_map fun u hu => ⟨?_, φn u⟩).symm
        by_cases e : u = t
        · rw [e]
          have h1 : ¬ (tr t ≠ [] ∧ y ≠ td t ∧ y ∈ th_ t) := fun z => z.1 q7
          have h2 : ¬ (tr (φ t) ≠ [] ∧ y ≠ td (φ t) ∧ y ∈ th_ (φ t)) := fun z => hyW ⟨by rw [← thφ]; exact z.2.2, by
            have := z.2.1
            rw [φt] at this
            exact this⟩
          simp only [h1, h2]
        · rw [φo u hu e]
end SR
