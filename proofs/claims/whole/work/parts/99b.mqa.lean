/-! THE MODEL'S QUESTIONS about the line -/
section MQ
variable {h g : AH} {A : AG} {X : BG} {w : Nat} {K : Int32 → AH → Prop}
/-- what a question to the model comes to -/
def mqK (h : AH) (X : BG) (q : QA) (K : Int32 → AH → Prop) : Prop := ∀ g, chi 606 619 h g → RMb g X → mI g 606 0 = nI q.1 → K q.2 g
theorem RMb.ask (q : RMb h X) (c : mf [614, 615, 616, 617, 618] [0, 20] h g) : RMb g X := by
  obtain ⟨s, q1, q2, q3, q4, q5, q6⟩ := q
  exact ⟨c.s s, q1.fr c (by decide), q2.fr c (by decide) (by decide), q3.fr c (by decide) (by decide), q4.fr c (by decide) (by decide), q5.fr c (by decide) (by decide), q6.fr c (by decide) (by decide) (by decide) (by decide)⟩
theorem mqK.to {q : QA} (kk : mqK h X q K) (r : RMb h X) (c : mf [614, 615, 616, 617, 618] [0, 20] h g) (e : mI g 606 0 = nI q.1) : K q.2 g := kk g (mf_x c (by decide)) (r.ask c) e
theorem m9_type (q : RMb h X) {c : Nat} (k : (bF X).length < 60 → ∀ g, chi 606 619 h g → RMb g (bA X, bH X, bS X, bO X, bF X ++ [c], X.2.2.2.2.2) → mI g 606 0 = nI 0 → K (nI ((bF X).length + 1)) g) (hl : (bF X).length ≤ 60) (kT : (bF X).length = 60 → ∀ g, chi 606 619 h g → RMb g X → mI g 606 0 = nI 1 → K (nI 0) g) : wX10_type 606 (nI c) h K := by
  have q' := q
  obtain ⟨s, q1, q2, q3, ⟨q4, q4'⟩, q5, q6⟩ := q
  have nz11 : (nZ ≤ 611) = True := eq_true (by decide)
  unfold wX10_type wX10_type_J15
  simp (disch := omega) only [s.o, true_and, forall_eq, q4, nI_add, pk_mul, nI_clamp, nI_leI, nI_ltI, nI_eq, vp_in_nI]
  refine ⟨fun hn => ?_, fun hn => ?_⟩
  · have e0 : mI (uI h 606 0 (nI 0)) 606 0 = nI 0 := by rw [mI_uI, if_pos ⟨rfl, rfl⟩]
    have e15 : mI (uI h 606 0 (nI 0)) 606 15 = nI (bF X).length := by rw [mI_uI, if_neg (by omega)]; exact q4
    simp (disch := omega) only [e0, e15, s.r7, s.a11, s.l11, nz11, nI_add, pk_mul, nI_clamp, nI_leI, nI_ltI, nI_eq, vp_in_nI, true_and]
    have e15' : mI (uI (uI h 606 0 (nI 0)) 611 (bF X).length (nI c)) 606 15 = nI (bF X).length := by rw [mI_o (by decide)]; exact e15
    rw [e15', nI_add]
    refine ⟨fun _ => ?_, fun z => absurd (Nat.le_refl _) z⟩
    have cc : mf [611] [0, 15] h (uI (uI (uI h 606 0 (nI 0)) 611 (bF X).length (nI c)) 606 15 (nI ((bF X).length + 1))) := (mf.uf (by decide)).tr ((mf.ui (by decide) (by decide)).tr (mf.uf (by decide)))
    have e9 : mI (uI (uI (uI h 606 0 (nI 0)) 611 (bF X).length (nI c)) 606 15 (nI ((bF X).length + 1))) 606 15 = nI ((bF X).length + 1) := by rw [mI_uI, if_pos ⟨rfl, rfl⟩]
    rw [e9]
    refine k (by omega) _ (mf_x cc (by decide)) ⟨cc.s s, q1.fr cc (by decide), q2.fr cc (by decide) (by decide), q3.fr cc (by decide) (by decide), ⟨?_, fun i d hd => ?_⟩, q5.fr cc (by decide) (by decide), q6.fr cc (by decide) (by decide) (by decide) (by decide)⟩ (by rw [mI_uI, if_neg (by omega), mI_o (by decide)]; exact e0)
    · rw [e9]
      show _ = nI (bF X ++ [c]).length
      rw [List.length_append]; rfl
    · have hd' : (bF X ++ [c])[i]? = some d := hd
      have hi := (List.getElem?_eq_some_iff.mp hd').1
      simp at hi
      rw [mI_o (by decide), mI_up, mI_o (by decide)]
      by_cases z : i < (bF X).length
      · rw [List.getElem?_append_left z] at hd'
        rw [ups_o (by omega)]; exact q4' i d hd'
      · have ei : i = (bF X).length := by omega
        rw [ei, List.getElem?_append_right (Nat.le_refl _), Nat.sub_self] at hd'
        have : d = c := by simpa using hd'.symm
        rw [ei, ups_s, this]
  · have e0 : mI (uI h 606 0 (nI 1)) 606 0 = nI 1 := by rw [mI_uI, if_pos ⟨rfl, rfl⟩]
    simp (disch := omega) only [e0, nI_add, pk_mul, nI_clamp, nI_leI, nI_ltI, nI_eq, vp_in_nI]
    have cc : mf [614, 615, 616, 617, 618] [0, 20] h (uI h 606 0 (nI 1)) := mf.uf (by decide)
    exact ⟨fun z => absurd z (by omega), fun _ => kT hn _ (mf_x cc (by decide)) (q'.ask cc) e0⟩
theorem m_isAsked (q : RMb h X) (k : GK (bA X)) {x : Int32} (kN : iv (gn (aL (bA X))) x = none → ∀ g, mf [614, 615, 616, 617, 618] [0, 20] h g → mI g 606 0 = nI 1 → K (nI 0) g) (kS : ∀ b, b < gn (aL (bA X)) → x = nI b → iv (gn (aL (bA X))) x = some b → ∀ g, mf [614, 615, 616, 617, 618] [0, 20] h g → mI g 606 0 = nI 0 → K (nI 1) g) : wX10_isAsked 606 x h K := by
  have h12 := k.1.1
  unfold wX10_isAsked wX10_isAsked_J14
  simp only [m_isBlock q.1 k.1 q.2.1, q.1.o, true_and]
  refine (iv_if (P := _) (Q := _) (fun e => ?_) (fun b hb eb e => ?_) (by omega)).symm
  · intro g1 hg1
    have c : mf [614, 615, 616, 617, 618] [0, 20] h g1 := by rw [hg1]; exact mf.uf (by decide)
    have e0 : mI g1 606 0 = nI 1 := by rw [hg1, mI_uI, if_pos ⟨rfl, rfl⟩]
    rw [e0]
    exact ⟨fun _ => kN e g1 c e0, fun z => absurd z (by decide)⟩
  · intro g1 hg1
    have c : mf [614, 615, 616, 617, 618] [0, 20] h g1 := by rw [hg1]; exact mf.uf (by decide)
    have e0 : mI g1 606 0 = nI 0 := by rw [hg1, mI_uI, if_pos ⟨rfl, rfl⟩]
    rw [e0]
    exact ⟨fun z => absurd rfl z, fun _ => kS b hb eb e g1 c e0⟩
theorem m9_blockLength (q : RMb h X) (k : GK (bA X)) {x : Int32} (kk : mqK h X (qLen (bA X) x) K) : wX10_blockLength 606 x h K := by
  have h12 := k.1.1
  unfold wX10_blockLength
  unfold qLen at kk
  refine ⟨q.1.o, m_isAsked q k (fun e g c e0 => ?_) (fun b hb eb e g c e0 => ?_)⟩
  · rw [e] at kk
    exact ⟨fun _ => kk.to q c e0, fun z => absurd rfl z⟩
  · rw [e] at kk
    have s' := c.s q.1
    have r' := q.2.1.fr c (by decide)
    subst eb
    refine ⟨fun z => absurd z (by decide), fun _ => ⟨s'.o, ?_⟩⟩
    rw [m_block s' (show b < 12 by omega) (show 0 < 6 by decide), (r'.2.1 b (by omega)).1 hb]
    exact kk.to q c e0
theorem m9_blockState (q : RMb h X) (k : GK (bA X)) (hC : aC (bA X) ≤ 9000) {x : Int32} (kk : mqK h X (qState (bA X) x) K) : wX10_blockState 606 x h K := by
  have h12 := k.1.1
  unfold wX10_blockState
  unfold qState at kk
  refine ⟨q.1.o, m_isAsked q k (fun e g c e0 => ?_) (fun b hb eb e g c e0 => ?_)⟩
  · rw [e] at kk
    exact ⟨fun _ => kk.to q c e0, fun z => absurd rfl z⟩
  · rw [e] at kk
    have s' := c.s q.1
    have r' := q.2.1.fr c (by decide)
    subst eb
    refine ⟨fun z => absurd z (by decide), fun _ => ⟨s'.o, ?_⟩⟩
    rw [m_look s' (k.ims hC) r' (show b < 12 by omega)]
    have hl := (stc_le (bA X) b).1
    have h2 : ((nI (stc (bA X) b)).toUInt32 % 65536).toInt32 = nI (stc (bA X) b) := by
      have : ∀ m, m < 128 → ((nI m).toUInt32 % 65536).toInt32 = nI m := by decide +kernel
      exact this _ hl
    rw [h2]
    refine ⟨?_, kk.to q c e0⟩
    have : ∀ m, m < 128 → narrow .char (.int (nI m)) = .int (nI m) := by decide +kernel
    exact this _ hl
end MQ
