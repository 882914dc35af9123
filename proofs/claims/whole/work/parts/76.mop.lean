/-! THE MODEL'S CHANGES: blocks, points, links, shut blocks -/
section MO
variable {h g : AH} {A : AG} {G : LG} {f f' : Nat → Int32}
theorem mI_up {j : Nat} {v : Int32} {a : Nat} : mI (uI h a j v) a = ups (mI h a) j v := by
  funext i
  rw [mI_uI]
  by_cases e : i = j
  · subst e; rw [if_pos ⟨rfl, rfl⟩, ups_s]
  · rw [if_neg (fun z => e z.2), ups_o e]
theorem eH.cg (r : eH f A) (e : ∀ k, k < 9 → f' k = f k) : eH f' A := by
  unfold eH
  rw [e 0 (by decide), e 1 (by decide), e 2 (by decide), e 3 (by decide), e 4 (by decide), e 5 (by decide), e 6 (by decide), e 7 (by decide), e 8 (by decide)]
  exact r
theorem eB.cg (r : eB f G) (e : ∀ b k, b < 12 → k < 4 → f' (9 + 6 * b + k) = f (9 + 6 * b + k)) : eB f' G := fun b hb => by
  rw [e b 0 hb (by decide), e b 1 hb (by decide), e b 2 hb (by decide), e b 3 hb (by decide)]
  exact r b hb
theorem eP.cg (r : eP f G) (e : ∀ p k, p < 8 → k < 4 → f' (81 + 5 * p + k) = f (81 + 5 * p + k)) : eP f' G := fun b hb => by
  rw [e b 0 hb (by decide), e b 1 hb (by decide), e b 2 hb (by decide), e b 3 hb (by decide)]
  exact r b hb
theorem eTr.cg {i : Nat} {t : TG} (r : eTr f i t) (hl : (th_ t).length ≤ 12) (e : ∀ k, k < 19 → f' (121 + 19 * i + k) = f (121 + 19 * i + k)) : eTr f' i t := by
  obtain ⟨r0, r1, r2, r3, r4, r5, r6, r7⟩ := r
  refine ⟨by rw [e 0 (by decide)]; exact r0, by rw [e 1 (by decide)]; exact r1, by rw [e 2 (by decide)]; exact r2, by rw [e 3 (by decide)]; exact r3, by rw [e 4 (by decide)]; exact r4, by rw [e 5 (by decide)]; exact r5, by rw [e 6 (by decide)]; exact r6, fun hn k c hk => ?_⟩
  have := (List.getElem?_eq_some_iff.mp hk).1
  rw [e (7 + k) (by omega)]
  exact r7 hn k c hk
theorem eT.cg {T : List TG} (r : eT f T) (hl : ∀ t ∈ T, (th_ t).length ≤ 12) (e : ∀ i k, i < 8 → k < 19 → f' (121 + 19 * i + k) = f (121 + 19 * i + k)) : eT f' T := fun i hi => by
  refine ⟨fun t ht => ((r i hi).1 t ht).cg (hl t (List.mem_of_getElem? ht)) (fun k hk => e i k hi hk), fun z => ?_⟩
  rw [e i 3 hi (by decide), e i 5 hi (by decide), e i 6 hi (by decide)]
  exact (r i hi).2 z
theorem eK.cg (r : eK f A) (e1 : ∀ b, b < 12 → f' (9 + 6 * b + 4) = f (9 + 6 * b + 4)) (e2 : ∀ b, b < 12 → f' (9 + 6 * b + 5) = f (9 + 6 * b + 5)) (e3 : ∀ p, p < 8 → f' (81 + 5 * p + 4) = f (81 + 5 * p + 4)) : eK f' A := ⟨fun b hb => by rw [e1 b hb, e2 b hb]; exact r.1 b hb, fun p hp => by rw [e3 p hp]; exact r.2 p hp⟩
theorem eQ.cg {Q : List Nat} (r : eQ f Q) (hl : Q.length ≤ 8) (e : ∀ i, i < 8 → f' (273 + i) = f (273 + i)) : eQ f' Q := fun i q hq => by
  have := (List.getElem?_eq_some_iff.mp hq).1
  rw [e i (by omega)]
  exact r i q hq
theorem IMs.th (i : IMs A) {t : TG} (ht : t ∈ aT A) : (th_ t).length ≤ 12 := by
  obtain ⟨⟨k1, -, k3⟩, k4, -⟩ := i.2.2.2.1 t ht
  have := nodup_le (gn (aL A)) _ k4 (fun y hy => by
    rcases List.mem_cons.mp hy with rfl | hy
    · exact k1
    · exact k3 y hy)
  have := i.1.1
  omega
theorem rm.cg (i : IMs A) (r : rm f A) (e : ∀ k, k < 281 → f' k = f k) : rm f' A := ⟨r.1.cg (fun k hk => e k (by omega)), r.2.1.cg (fun b k hb hk => e _ (by omega)), r.2.2.1.cg (fun b k hb hk => e _ (by omega)), r.2.2.2.1.cg (fun t ht => i.th ht) (fun b k hb hk => e _ (by omega)), r.2.2.2.2.1.cg (fun b hb => e _ (by omega)) (fun b hb => e _ (by omega)) (fun b hb => e _ (by omega)), r.2.2.2.2.2.cg i.2.2.1 (fun i hi => e _ (by omega))⟩
/-- what a change comes to -/
def mopK (h : AH) (r : RsA) (K : Int32 → AH → Prop) : Prop := (r.1 ≠ 0 → K (nI r.1) h) ∧ (r.1 = 0 → ∀ g, mf [607, 614, 615, 616] [19, 20] h g → rm (mI g 607) r.2.2 → mI g 606 19 = r.2.1 → K (nI 0) g)
theorem m_done (s : sM h) {v : Int32} {K : Int32 → AH → Prop} : wX10_done 606 v h K ↔ K (nI 0) (uI h 606 19 v) := by
  unfold wX10_done
  simp only [s.o, true_and, forall_eq]
theorem mopK.end {r : RsA} {K : Int32 → AH → Prop} (k : mopK h r K) (s : sM g) (e : r.1 = 0) (c : mf [607, 614, 615, 616] [19, 20] h g) (q : rm (mI g 607) r.2.2) {v : Int32} (hv : v = r.2.1) : wX10_done 606 v g K := by
  rw [m_done s]
  refine k.2 e _ (c.tr (mf.uf (by decide))) ?_ (by rw [mI_uI, if_pos ⟨rfl, rfl⟩, hv])
  rw [mI_o (by decide)]
  exact q
theorem lk_bt {G : LG} (i : IL G) {b : Nat} (hb : gn G ≤ b) : bitE (gh G) b = 0 := by
  unfold bitE
  have : (gh G).testBit b = false := Nat.testBit_lt_two_pow (Nat.lt_of_lt_of_le i.2.2.2.2.2.2.2.1 (Nat.pow_le_pow_right (by decide) hb))
  rw [this]
  rfl
theorem m_lays (s : sM h) (i : IMs A) (r : rm (mI h 607) A) {x : Int32} {K : Int32 → AH → Prop} (k : mopK h (oBlock A x) K) : wX10_lays 606 x h K := by
  have h12 := i.1.1
  unfold wX10_lays
  rw [m_in]
  unfold oBlock at k
  by_cases e1 : x < nI 1 ∨ nI 9 < x
  · rw [if_pos e1] at k ⊢
    exact ⟨fun z => absurd rfl z, fun _ => k.1 (Nat.succ_ne_zero _)⟩
  · rw [if_neg e1] at k ⊢
    refine ⟨fun _ => ?_, fun z => absurd z (by decide)⟩
    simp (disch := omega) only [s.o, s.r1, s.a7, s.l7, nI_add, pk_mul, nI_clamp, nI_leI, nI_ltI, nI_eq, vp_in_nI, true_and, r.1.1, forall_eq]
    refine ⟨fun e2 => ?_, fun e2 => by rw [if_pos e2] at k; exact k.1 (Nat.succ_ne_zero _)⟩
    rw [if_neg e2] at k
    simp (disch := omega) only [m_puts s (show gn (aL A) < 12 by omega) (show 0 < 6 by decide), isO_uI, isA_uI, ln_uI, mR_uI, isO_uR, isA_uR, ln_uR, mI_uR, isO_uL, isA_uL, ln_uL, mR_uL, mI_uL, mL_uI, mL_uR, isO_uA, isA_uA, ln_uA, mR_uA, mL_uA, mS_uI, mS_uR, mS_uL, mS_uA, s.o, s.r1, s.a7, s.l7, nz7, nI_add, pk_mul, nI_clamp, nI_leI, nI_ltI, nI_eq, vp_in_nI, true_and]
    have hx : x = nI x.toNatClampNeg := by
      obtain ⟨j, hj, -, rfl⟩ := nI_of1 (x := x) (fun z => e1 (Or.inl z))
      rw [nI_clamp (by omega)]
    refine k.end (g := uI (uI h 607 (9 + 6 * gn (aL A) + 0) x) 607 0 (nI (gn (aL A) + 1))) (mf.s (C := [607]) (F := []) ((mf.ui (by decide) (by decide)).tr (mf.ui (by decide) (by decide))) s) rfl ((mf.ui (by decide) (by decide)).tr (mf.ui (by decide) (by decide))) ?_ rfl
    rw [mI_up, mI_up]
    obtain ⟨r1, r2, r3, r4, r5, r6⟩ := r
    have hq := i.2.2.1
    refine ⟨⟨ups_s _ _ _, ?_⟩, fun b hb => ⟨fun hg => ?_, ?_, ?_, ?_⟩, ?_, r4.cg (fun t ht => i.th ht) (fun i k hi hk => by rw [ups_o (by omega), ups_o (by omega)]), ?_, r6.cg hq (fun i hi => by rw [ups_o (by omega), ups_o (by omega)])⟩
    · have e : ∀ k, 1 ≤ k → k < 9 → ups (ups (mI h 607) (9 + 6 * gn (aL A) + 0) x) 0 (nI (gn (aL A) + 1)) k = mI h 607 k := fun k h1 h2 => by rw [ups_o (by omega), ups_o (by omega)]
      rw [e 1 (by decide) (by decide), e 2 (by decide) (by decide), e 3 (by decide) (by decide), e 4 (by decide) (by decide), e 5 (by decide) (by decide), e 6 (by decide) (by decide), e 7 (by decide) (by decide), e 8 (by decide) (by decide)]
      exact r1.2
    · rw [ups_o (by omega)]
      show _ = nI (ups (gl (aL A)) (gn (aL A)) x.toNatClampNeg b)
      by_cases z : b = gn (aL A)
      · subst z; rw [ups_s, ups_s]; exact hx
      · rw [ups_o (by omega), ups_o z]
        exact (r2 b hb).1 (by have : b < gn (aL A) + 1 := hg; omega)
    · rw [ups_o (by omega), ups_o (by omega)]
      exact (r2 b hb).2.1
    · rw [ups_o (by omega), ups_o (by omega), (r2 b hb).2.2.1]
      congr 1
      show _ = if b < gn (aL A) + 1 ∧ b ∉ gp (aL A) then sE (ups (gf (aL A)) (gn (aL A)) none b) else 0
      unfold lkE
      by_cases z : b = gn (aL A)
      · subst z; rw [ups_s, if_neg (by omega)]; simp [sE]
      · rw [ups_o z]
        by_cases z2 : b < gn (aL A)
        · simp only [z2, show b < gn (aL A) + 1 by omega]
        · rw [if_neg (fun y => z2 y.1), if_neg (fun y => by have := y.1; omega)]
    · rw [ups_o (by omega), ups_o (by omega)]
      exact (r2 b hb).2.2.2
    · intro p hp
      refine ⟨fun y hy => ?_, fun z => by rw [ups_o (by omega), ups_o (by omega)]; exact (r3 p hp).2 z⟩
      have hyn := (i.1.2.2.2.2.2.1 y (List.mem_of_getElem? hy)).1
      rw [ups_o (by omega), ups_o (by omega), ups_o (by omega), ups_o (by omega), ups_o (by omega), ups_o (by omega), ups_o (by omega), ups_o (by omega)]
      have := (r3 p hp).1 y hy
      refine ⟨this.1, ?_, ?_, this.2.2.2⟩
      · show _ = oI (ups (gf (aL A)) (gn (aL A)) none y)
        rw [ups_o (by omega)]; exact this.2.1
      · show _ = oI (ups (gr (aL A)) (gn (aL A)) none y)
        rw [ups_o (by omega)]; exact this.2.2.1
    · exact eK.cg (A := wL A (gBlock (aL A) x.toNatClampNeg)) r5 (fun b hb => by rw [ups_o (by omega), ups_o (by omega)]) (fun b hb => by rw [ups_o (by omega), ups_o (by omega)]) (fun b hb => by rw [ups_o (by omega), ups_o (by omega)])
end MO
