/-! THE MODEL'S CHANGES: trains come; the queue -/
section CO
variable {h g : AH} {A : AG} {G : LG} {f f' : Nat → Int32}
theorem ocE_add {T : List TG} {t : TG} {P : TG → Bool} (hP : P t = false) : toE ((T ++ [t]).find? P) = toE (T.find? P) := by
  rw [List.find?_append]
  have : [t].find? P = none := by simp [hP]
  rw [this]
  cases T.find? P <;> rfl
theorem fre_all {b : Nat} (h : fre A b = true) : (gh (aL A)).testBit b = false ∧ resv A b = false ∧ occ A b = false := by
  unfold fre at h
  revert h
  cases (gh (aL A)).testBit b <;> cases resv A b <;> cases occ A b <;> simp
theorem come_rm (i : IMs A) (r : rm f A) {b d : Nat} (hb : b < 12) (h8 : (aT A).length < 8) (hq : (aQ A).length < 8) (hf : fre A b = true) : rm (ups (ups (ups (ups (ups (ups (ups (ups f (121 + 19 * (aT A).length + 0) (nI (aC A))) (121 + 19 * (aT A).length + 1) (nI b)) (121 + 19 * (aT A).length + 2) (nI d)) 4 (nI ((aT A).length + 1))) 3 (nI (aC A + 1))) (9 + 6 * b + 4) (nI (aC A + 1))) (273 + (aQ A).length) (nI (aC A))) 5 (nI ((aQ A).length + 1))) (aL A, aT A ++ [(aC A, b, d, [], 0, 0)], aQ A ++ [aC A], aC A + 1, aO A, aM A, aD A) := by
  obtain ⟨f1, f2, f3⟩ := fre_all hf
  obtain ⟨r1, r2, r3, r4, r5, r6⟩ := r
  generalize hP : (aT A).length = P at h8 ⊢
  generalize hR : (aQ A).length = R at hq ⊢
  generalize hF : ups (ups (ups (ups (ups (ups (ups (ups f (121 + 19 * P + 0) (nI (aC A))) (121 + 19 * P + 1) (nI b)) (121 + 19 * P + 2) (nI d)) 4 (nI (P + 1))) 3 (nI (aC A + 1))) (9 + 6 * b + 4) (nI (aC A + 1))) (273 + R) (nI (aC A))) 5 (nI (R + 1)) = F
  have o : ∀ k, k ≠ 3 → k ≠ 4 → k ≠ 5 → k ≠ 9 + 6 * b + 4 → k ≠ 273 + R → (k < 121 + 19 * P ∨ 121 + 19 * P + 3 ≤ k) → F k = f k := fun k h1 h2 h3 h4 h5 h6 => by
    rw [← hF, ups_o h3, ups_o h5, ups_o h4, ups_o h1, ups_o h2, ups_o (by omega), ups_o (by omega), ups_o (by omega)]
  have p3 : F 3 = nI (aC A + 1) := by rw [← hF, ups_o (by omega), ups_o (by omega), ups_o (by omega), ups_s]
  have p4 : F 4 = nI (P + 1) := by rw [← hF, ups_o (by omega), ups_o (by omega), ups_o (by omega), ups_o (by omega), ups_s]
  have p5 : F 5 = nI (R + 1) := by rw [← hF, ups_s]
  have pb : F (9 + 6 * b + 4) = nI (aC A + 1) := by rw [← hF, ups_o (by omega), ups_o (by omega), ups_s]
  have pq : F (273 + R) = nI (aC A) := by rw [← hF, ups_o (by omega), ups_s]
  have t0 : F (121 + 19 * P + 0) = nI (aC A) := by rw [← hF, ups_o (by omega), ups_o (by omega), ups_o (by omega), ups_o (by omega), ups_o (by omega), ups_o (by omega), ups_o (by omega), ups_s]
  have t1 : F (121 + 19 * P + 1) = nI b := by rw [← hF, ups_o (by omega), ups_o (by omega), ups_o (by omega), ups_o (by omega), ups_o (by omega), ups_o (by omega), ups_s]
  have t2 : F (121 + 19 * P + 2) = nI d := by rw [← hF, ups_o (by omega), ups_o (by omega), ups_o (by omega), ups_o (by omega), ups_o (by omega), ups_s]
  clear hF
  refine ⟨⟨?_, ?_, ?_, p3, ?_, ?_, ?_⟩, r2.cg (fun b k hb hk => o _ (by omega) (by omega) (by omega) (by omega) (by omega) (by omega)), r3.cg (fun b k hb hk => o _ (by omega) (by omega) (by omega) (by omega) (by omega) (by omega)), fun j hj => ⟨fun t ht => ?_, fun z => ?_⟩, ⟨fun c hc => ⟨?_, ?_⟩, fun p hp => ?_⟩, fun j q hjq => ?_⟩
  · rw [o 0 (by omega) (by omega) (by omega) (by omega) (by omega) (by omega)]; exact r1.1
  · rw [o 1 (by omega) (by omega) (by omega) (by omega) (by omega) (by omega)]; exact r1.2.1
  · rw [o 2 (by omega) (by omega) (by omega) (by omega) (by omega) (by omega)]; exact r1.2.2.1
  · rw [p4]
    show _ = nI (aT A ++ [_]).length
    rw [List.length_append, hP]; rfl
  · rw [p5]
    show _ = nI (aQ A ++ [_]).length
    rw [List.length_append, hR]; rfl
  · rw [o 6 (by omega) (by omega) (by omega) (by omega) (by omega) (by omega), o 7 (by omega) (by omega) (by omega) (by omega) (by omega) (by omega), o 8 (by omega) (by omega) (by omega) (by omega) (by omega) (by omega)]
    exact r1.2.2.2.2.2.2
  · have ht' : (aT A ++ [(aC A, b, d, [], 0, 0)])[j]? = some t := ht
    by_cases e : j < P
    · rw [List.getElem?_append_left (by omega)] at ht'
      exact ((r4 j hj).1 t ht').cg (i.th (List.mem_of_getElem? ht')) (fun k hk => o _ (by omega) (by omega) (by omega) (by omega) (by omega) (by omega))
    · have hl := (List.getElem?_eq_some_iff.mp ht').1
      simp at hl
      have ej : j = P := by omega
      rw [List.getElem?_append_right (by omega), hP, ej, Nat.sub_self] at ht'
      have et : t = (aC A, b, d, [], 0, 0) := by simpa using ht'.symm
      subst et
      subst ej
      obtain ⟨z3, z5, z6⟩ := (r4 j hj).2 (by omega)
      refine ⟨t0, t1, t2, ?_, fun z => absurd rfl z, ?_, ?_, fun z => absurd rfl z⟩
      · rw [o _ (by omega) (by omega) (by omega) (by omega) (by omega) (by omega), z3]; rfl
      · rw [o _ (by omega) (by omega) (by omega) (by omega) (by omega) (by omega), z5]; rfl
      · rw [o _ (by omega) (by omega) (by omega) (by omega) (by omega) (by omega), z6]; rfl
  · have z' : (aT A ++ [(aC A, b, d, [], 0, 0)]).length ≤ j := z
    simp at z'
    rw [o _ (by omega) (by omega) (by omega) (by omega) (by omega) (by omega), o _ (by omega) (by omega) (by omega) (by omega) (by omega) (by omega), o _ (by omega) (by omega) (by omega) (by omega) (by omega) (by omega)]
    exact (r4 j hj).2 (by omega)
  · show _ = nI (toE ((aT A ++ [(aC A, b, d, [], 0, 0)]).find? (fun t => decide (tb t = c))))
    by_cases e : c = b
    · rw [e, pb]
      congr 1
      rw [List.find?_append]
      have : (aT A).find? (fun t => decide (tb t = b)) = none := fd_none.mpr f3
      rw [this]
      have h1 : [(aC A, b, d, [], 0, 0)].find? (fun t : TG => decide (tb t = b)) = some (aC A, b, d, [], 0, 0) := by simp [tb]
      rw [h1]
      rfl
    · rw [o _ (by omega) (by omega) (by omega) (by omega) (by omega) (by omega), ocE_add (by
        have : ¬ b = c := fun z => e z.symm
        exact decide_eq_false this)]
      exact (r5.1 c hc).1
  · show _ = nI (toE ((aT A ++ [(aC A, b, d, [], 0, 0)]).find? (fun t => decide (c ∈ tr t))))
    rw [o _ (by omega) (by omega) (by omega) (by omega) (by omega) (by omega), ocE_add (by simp [tr])]
    exact (r5.1 c hc).2
  · rw [o _ (by omega) (by omega) (by omega) (by omega) (by omega) (by omega), r5.2 p hp]
    congr 1
    unfold lcE
    show lqE A _ = lqE (aL A, aT A ++ [(aC A, b, d, [], 0, 0)], aQ A ++ [aC A], aC A + 1, aO A, aM A, aD A) (gp (aL A))[p]?
    cases (gp (aL A))[p]? with
    | none => rfl
    | some y =>
      show _ = toE ((aT A ++ [(aC A, b, d, [], 0, 0)]).find? _)
      rw [ocE_add (by simp [tr])]
      rfl
  · have hq' : (aQ A ++ [aC A])[j]? = some q := hjq
    have hl := (List.getElem?_eq_some_iff.mp hq').1
    simp at hl
    by_cases e : j < R
    · rw [List.getElem?_append_left (by omega)] at hq'
      rw [o _ (by omega) (by omega) (by omega) (by omega) (by omega) (by omega)]
      exact r6 j q hq'
    · have ej : j = R := by omega
      rw [List.getElem?_append_right (by omega), hR, ej, Nat.sub_self] at hq'
      have eq : q = aC A := by simpa using hq'.symm
      rw [ej, eq]
      exact pq
theorem m_comes (s : sM h) (i : IMs A) (ip : IP A) (hC : aC A < 9000) (r : rm (mI h 607) A) {x y : Int32} {K : Int32 → AH → Prop} (k : mopK h (oTrain A x y) K) : wX10_comes 606 x y h K := by
  have h12 := i.1.1
  have h8 := i.2.1
  have ql := ip.ql
  unfold wX10_comes
  simp only [m_isBlock s i.1 r, s.o, true_and]
  unfold oTrain at k
  refine (iv_if (P := _) (Q := _) (fun e => ?_) (fun b hb eb e => ?_) (by omega)).symm
  · rw [e] at k; exact k.1 (Nat.succ_ne_zero _)
  rw [e] at k
  refine iv_if (fun e => ?_) (fun d hd ed e => ?_) (by omega)
  · rw [e] at k; exact k.1 (Nat.succ_ne_zero _)
  rw [e] at k
  subst eb ed
  simp only at k
  obtain ⟨e0, e1, e2, e3, e4, e5, -⟩ := r.1
  simp (disch := omega) only [nI_add, pk_mul, nI_clamp, nI_leI, nI_ltI, nI_eq, vp_in_nI, s.o, s.r1, s.a7, s.l7, nz7, e4, true_and, m_look s i r (show b < 12 by omega), fre_102, forall_eq]
  by_cases z1 : b = d
  · rw [if_pos z1] at k
    exact ⟨fun z => absurd z1 z, fun _ => k.1 (Nat.succ_ne_zero _)⟩
  rw [if_neg z1] at k
  refine ⟨fun _ => ?_, fun z => absurd z z1⟩
  by_cases z2 : (aT A).length = 8
  · rw [if_pos (Or.inl z2)] at k
    exact ⟨fun _ => k.1 (Nat.succ_ne_zero _), fun z => absurd z2 z⟩
  refine ⟨fun z => absurd z z2, fun _ => ?_⟩
  by_cases z3 : ¬ fre A b = true
  · rw [if_pos (Or.inr (by simpa using z3))] at k
    exact ⟨fun z => absurd z z3, fun _ => k.1 (Nat.succ_ne_zero _)⟩
  have z4 : fre A b = true := Classical.not_not.mp z3
  rw [if_neg (by rw [z4]; simp [z2])] at k
  refine ⟨fun _ => ?_, fun z => absurd z z3⟩
  rw [e3, m_tells s (show (aT A).length < 8 by omega) (show 0 < 19 by decide)]
  have c1 : mf [607] [] h (uI h 607 (121 + 19 * (aT A).length + 0) (nI (aC A))) := mf.ui (by decide) (by decide)
  refine ⟨(c1.s s).o, ?_⟩
  rw [m_tells (c1.s s) (show (aT A).length < 8 by omega) (show 1 < 19 by decide)]
  have c2 := c1.tr (mf.ui (C := [607]) (F := []) (h := uI h 607 (121 + 19 * (aT A).length + 0) (nI (aC A))) (a := 607) (j := 121 + 19 * (aT A).length + 1) (v := nI b) (by decide) (by decide))
  refine ⟨(c2.s s).o, ?_⟩
  rw [m_tells (c2.s s) (show (aT A).length < 8 by omega) (show 2 < 19 by decide)]
  generalize hP : (aT A).length = P at *
  simp (disch := omega) only [isO_uI, isA_uI, ln_uI, mR_uI, isO_uR, isA_uR, ln_uR, mI_uR, isO_uL, isA_uL, ln_uL, mR_uL, mI_uL, mL_uI, mL_uR, isO_uA, isA_uA, ln_uA, mR_uA, mL_uA, mS_uI, mS_uR, mS_uL, mS_uA, s.o, s.r1, s.a7, s.l7, nz7, true_and, nI_add, pk_mul, nI_clamp, nI_leI, nI_ltI, nI_eq, vp_in_nI, mI_up, ups_o, ups_s, e3]
  generalize hg3 : uI (uI (uI (uI (uI h 607 (121 + 19 * P + 0) (nI (aC A))) 607 (121 + 19 * P + 1) (nI b)) 607 (121 + 19 * P + 2) (nI d)) 607 4 (nI (P + 1))) 607 3 (nI (aC A + 1)) = g3
  have c3 : mf [607] [] h g3 := by
    rw [← hg3]
    exact c2.tr ((mf.ui (by decide) (by decide)).tr ((mf.ui (by decide) (by decide)).tr (mf.ui (by decide) (by decide))))
  rw [m_puts (c3.s s) (show b < 12 by omega) (show 4 < 6 by decide)]
  have c4 : mf [607] [] h (uI g3 607 (9 + 6 * b + 4) (nI (aC A + 1))) := c3.tr (mf.ui (by decide) (by decide))
  have s4 := c4.s s
  have e9 : mI (uI g3 607 (9 + 6 * b + 4) (nI (aC A + 1))) 607 5 = nI (aQ A).length := by
    rw [mI_up, ups_o (by omega), ← hg3]
    simp (disch := omega) only [mI_up, ups_o]
    exact e5
  refine ⟨s4.o, ?_⟩
  unfold wX10_enqueues
  simp (disch := omega) only [isO_uI, isA_uI, ln_uI, mR_uI, isO_uR, isA_uR, ln_uR, mI_uR, isO_uL, isA_uL, ln_uL, mR_uL, mI_uL, mL_uI, mL_uR, isO_uA, isA_uA, ln_uA, mR_uA, mL_uA, mS_uI, mS_uR, mS_uL, mS_uA, s4.o, s4.r1, s4.a7, s4.l7, nz7, true_and, nI_add, pk_mul, nI_clamp, nI_leI, nI_ltI, nI_eq, vp_in_nI, mI_up, ups_o, ups_s, forall_eq]
  rw [mI_up, ups_o (by omega)] at e9
  simp (disch := omega) only [isO_uI, isA_uI, ln_uI, mR_uI, isO_uR, isA_uR, ln_uR, mI_uR, isO_uL, isA_uL, ln_uL, mR_uL, mI_uL, mL_uI, mL_uR, isO_uA, isA_uA, ln_uA, mR_uA, mL_uA, mS_uI, mS_uR, mS_uL, mS_uA, s4.o, s4.r1, s4.a7, s4.l7, nz7, true_and, nI_add, pk_mul, nI_clamp, nI_leI, nI_ltI, nI_eq, vp_in_nI, mI_up, ups_o, ups_s, forall_eq, e9]
  have c5 : mf [607] [] h (uI (uI (uI g3 607 (9 + 6 * b + 4) (nI (aC A + 1))) 607 (273 + (aQ A).length) (nI (aC A))) 607 5 (nI ((aQ A).length + 1))) := c4.tr ((mf.ui (by decide) (by decide)).tr (mf.ui (by decide) (by decide)))
  refine k.end (c5.s s) rfl (c5.mo (by decide) (by decide)) ?_ rfl
  have := come_rm i r (d := d) (show b < 12 by omega) (by omega) (by omega) z4
  rw [hP] at this
  rw [← hg3]
  simp only [mI_up]
  exact this
end CO
