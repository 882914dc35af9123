/-! THE MODEL'S CHANGES: points, links -/
section FK
variable {h g : AH} {A : AG} {G : LG} {f f' : Nat → Int32}
theorem led_xo : ∀ (l : List Nat) (b y : Nat), led G b l → y ∈ b :: l → (b :: l).getLast? ≠ some y → ∃ c, xo G y = some c := by
  intro l
  induction l with
  | nil =>
    intro b y _ hy hl
    have : y = b := by simpa using hy
    subst this
    simp at hl
  | cons c l ih =>
    intro b y hd hy hl
    rcases List.mem_cons.mp hy with e | e
    · rw [e]; exact ⟨c, hd.1⟩
    · exact ih c y hd.2 e (fun z => hl (by rw [List.getLast?_cons_cons]; exact z))
theorem th_last {t : TG} (i : tOk A t) (h : tr t ≠ []) : (th_ t).getLast? = some (td t) := by
  have := (i.2.2.2.2.2.2.1 h).1
  unfold th_
  cases hr : tr t with
  | nil => exact absurd hr h
  | cons c l => rw [List.getLast?_cons_cons, ← hr]; exact this
theorem lkr_no (ip : IP A) {y : Nat} (hx : xo (aL A) y = none) : lkr A y = none := by
  unfold lkr
  rw [List.find?_eq_none]
  intro t ht z
  obtain ⟨z1, z2, z3⟩ := of_decide_eq_true z
  have k := ip.2.1 t ht
  obtain ⟨c, hc⟩ := led_xo _ _ y k.2.2.2.2.2.1 z3 (fun e => z2 (by
    have e2 := th_last k z1
    unfold th_ at e2
    rw [e] at e2
    exact Option.some.inj e2))
  rw [hx] at hc
  cases hc
theorem gf_p (i : IL G) {b : Nat} (hb : b < gn G) : (gf G b).isSome = true ↔ (b ∈ gp G ∨ lkE G b ≠ 0) := by
  unfold lkE
  constructor
  · intro h
    by_cases hp : b ∈ gp G
    · exact Or.inl hp
    · right
      rw [if_pos ⟨hb, hp⟩]
      obtain ⟨c, hc⟩ := Option.isSome_iff_exists.mp h
      rw [hc]
      exact Nat.succ_ne_zero _
  · rintro (h | h)
    · have h1 := (i.2.2.2.2.2.1 b h).2
      rcases i.2.2.1 b hb with ⟨e1, e2⟩ | ⟨l, r, e1, -⟩
      · rw [e1, e2] at h1; exact absurd rfl h1
      · rw [e1]; rfl
    · by_cases hp : b ∈ gp G
      · rw [if_neg (fun z => z.2 hp)] at h; exact absurd rfl h
      · rw [if_pos ⟨hb, hp⟩] at h
        cases hc : gf G b with
        | none => rw [hc] at h; exact absurd rfl h
        | some c => rfl
theorem gf_n (i : IL G) {b : Nat} (hb : b < gn G) (h : ¬ (gf G b).isSome = true) : gf G b = none ∧ gr G b = none ∧ b ∉ gp G := by
  have h1 : gf G b = none := by
    cases hc : gf G b with
    | none => rfl
    | some c => rw [hc] at h; exact absurd rfl h
  refine ⟨h1, ?_, fun z => h ((gf_p i hb).mpr (Or.inl z))⟩
  rcases i.2.2.1 b hb with ⟨-, e2⟩ | ⟨l, r, e1, -⟩
  · exact e2
  · rw [h1] at e1; cases e1
theorem sE_lt {o : Option Nat} {n : Nat} (h : ∀ c, o = some c → c < n) : sE o < n + 1 := by
  cases o with
  | none => exact Nat.succ_pos _
  | some c => have := h c rfl; show c + 1 < n + 1; omega
theorem lkE_lt (i : IL G) (b : Nat) : lkE G b < 13 := by
  unfold lkE
  have h12 := i.1
  by_cases h : b < gn G ∧ b ∉ gp G
  · rw [if_pos h]
    exact sE_lt fun c hc => by have := (ex_lt i h.1 (Or.inl hc)).1; omega
  · rw [if_neg h]; decide
theorem stE_lt (i : IL G) (b : Nat) : stE G b < 9 := by
  unfold stE
  by_cases h : b ∈ gp G
  · rw [if_pos h]; have := (i.p8 h).1; omega
  · rw [if_neg h]; decide
theorem stE_z {b : Nat} : 0 < stE G b ↔ b ∈ gp G := by
  unfold stE
  by_cases h : b ∈ gp G
  · rw [if_pos h]; exact ⟨fun _ => h, fun _ => Nat.succ_pos _⟩
  · rw [if_neg h]; exact ⟨fun z => absurd z (by decide), fun z => absurd z h⟩
theorem xo_none {b : Nat} (h1 : gf G b = none) (h2 : gr G b = none) : xo G b = none := by
  unfold xo
  cases (gd G).testBit b <;> simp [h1, h2]
theorem iv_if {n : Nat} {x : Int32} {P Q : Prop} (h1 : iv n x = none → Q) (h2 : ∀ j, j < n → x = nI j → iv n x = some j → P) (hn : n < 2 ^ 31) : ((¬ (if (iv n x).isSome then nI 1 else nI 0) = nI 0 → P) ∧ ((if (iv n x).isSome then nI 1 else nI 0) = nI 0 → Q)) := by
  rcases iv_cases n hn x with ⟨e, -⟩ | ⟨j, hj, e, e2⟩
  · rw [e]
    exact ⟨fun z => absurd rfl z, fun _ => h1 e⟩
  · rw [e2]
    exact ⟨fun _ => h2 j hj e e2, fun z => absurd (show nI 1 = nI 0 from z) (by decide)⟩
theorem fork_rm (i : IMs A) (ip : IP A) (r : rm f A) {s l t : Nat} (hs : s < gn (aL A)) (h8 : (gp (aL A)).length < 8) (hf : gf (aL A) s = none) (hr : gr (aL A) s = none) (hp : s ∉ gp (aL A)) : rm (ups (ups (ups (ups (ups f (81 + 5 * (gp (aL A)).length + 0) (nI s)) (81 + 5 * (gp (aL A)).length + 1) (nI l)) (81 + 5 * (gp (aL A)).length + 2) (nI t)) (9 + 6 * s + 3) (nI ((gp (aL A)).length + 1))) 1 (nI ((gp (aL A)).length + 1))) (wL A (gPoint (aL A) s l t)) := by
  have h12 := i.1.1
  obtain ⟨r1, r2, r3, r4, r5, r6⟩ := r
  have hq := i.2.2.1
  generalize hP : (gp (aL A)).length = P at h8 ⊢
  have o : ∀ k, k ≠ 1 → k ≠ 9 + 6 * s + 3 → (k < 81 + 5 * P ∨ 81 + 5 * P + 3 ≤ k) → ups (ups (ups (ups (ups f (81 + 5 * P + 0) (nI s)) (81 + 5 * P + 1) (nI l)) (81 + 5 * P + 2) (nI t)) (9 + 6 * s + 3) (nI (P + 1))) 1 (nI (P + 1)) k = f k := fun k h1 h2 h3 => by
    rw [ups_o h1, ups_o h2, ups_o (by omega), ups_o (by omega), ups_o (by omega)]
  have hne : ∀ y ∈ gp (aL A), y ≠ s := fun y hy e => hp (e ▸ hy)
  refine ⟨⟨?_, ?_, ?_⟩, fun b hb => ⟨fun hg => ?_, ?_, ?_, ?_⟩, fun p hp8 => ⟨fun y hy => ?_, fun z => ?_⟩, r4.cg (fun t ht => i.th ht) (fun i k hi hk => o _ (by omega) (by omega) (by omega)), ⟨fun b hb => ?_, fun p hp8 => ?_⟩, r6.cg hq (fun i hi => o _ (by omega) (by omega) (by omega))⟩
  · rw [o 0 (by omega) (by omega) (by omega)]; exact r1.1
  · rw [ups_s]
    show _ = nI (gp (aL A) ++ [s]).length
    rw [List.length_append, hP]; rfl
  · rw [o 2 (by omega) (by omega) (by omega), o 3 (by omega) (by omega) (by omega), o 4 (by omega) (by omega) (by omega), o 5 (by omega) (by omega) (by omega), o 6 (by omega) (by omega) (by omega), o 7 (by omega) (by omega) (by omega), o 8 (by omega) (by omega) (by omega)]
    exact r1.2.2
  · rw [o _ (by omega) (by omega) (by omega)]; exact (r2 b hb).1 hg
  · rw [o _ (by omega) (by omega) (by omega)]; exact (r2 b hb).2.1
  · rw [o _ (by omega) (by omega) (by omega), (r2 b hb).2.2.1]
    congr 1
    show _ = if b < gn (aL A) ∧ b ∉ gp (aL A) ++ [s] then sE (ups (gf (aL A)) s (some l) b) else 0
    unfold lkE
    by_cases e : b = s
    · rw [e, if_pos (show s < gn (aL A) ∧ s ∉ gp (aL A) from ⟨hs, hp⟩), hf, if_neg (fun z => z.2 (List.mem_append_right _ List.mem_cons_self))]; rfl
    · rw [ups_o e]
      simp [e]
  · by_cases e : b = s
    · rw [e, ups_o (by omega), ups_s]
      congr 1
      show _ = if s ∈ gp (aL A) ++ [s] then (gp (aL A) ++ [s]).idxOf s + 1 else 0
      rw [if_pos (by simp), List.idxOf_append, if_neg hp]
      simp [hP]
    · rw [o _ (by omega) (by omega) (by omega), (r2 b hb).2.2.2]
      congr 1
      show _ = if b ∈ gp (aL A) ++ [s] then (gp (aL A) ++ [s]).idxOf b + 1 else 0
      unfold stE
      by_cases hb2 : b ∈ gp (aL A)
      · rw [if_pos hb2, if_pos (List.mem_append_left _ hb2), List.idxOf_append, if_pos hb2]
      · rw [if_neg hb2, if_neg (by simp [hb2, e])]
  · have hy' : (gp (aL A) ++ [s])[p]? = some y := hy
    by_cases e : p < P
    · rw [List.getElem?_append_left (by omega)] at hy'
      have hm := hne y (List.mem_of_getElem? hy')
      rw [o _ (by omega) (by omega) (by omega), o _ (by omega) (by omega) (by omega), o _ (by omega) (by omega) (by omega), o _ (by omega) (by omega) (by omega)]
      have := (r3 p hp8).1 y hy'
      refine ⟨this.1, ?_, ?_, this.2.2.2⟩
      · show _ = oI (ups (gf (aL A)) s (some l) y)
        rw [ups_o hm]; exact this.2.1
      · show _ = oI (ups (gr (aL A)) s (some t) y)
        rw [ups_o hm]; exact this.2.2.1
    · have hl := (List.getElem?_eq_some_iff.mp hy').1
      simp at hl
      have ep : p = P := by omega
      rw [List.getElem?_append_right (by omega), hP, ep, Nat.sub_self] at hy'
      have ey : y = s := by simpa using hy'.symm
      subst ey
      subst ep
      refine ⟨?_, ?_, ?_, ?_⟩
      · rw [ups_o (by omega), ups_o (by omega), ups_o (by omega), ups_o (by omega), ups_s]
      · rw [ups_o (by omega), ups_o (by omega), ups_o (by omega), ups_s]
        show _ = oI (ups (gf (aL A)) y (some l) y)
        rw [ups_s]; rfl
      · rw [ups_o (by omega), ups_o (by omega), ups_s]
        show _ = oI (ups (gr (aL A)) y (some t) y)
        rw [ups_s]; rfl
      · rw [o _ (by omega) (by omega) (by omega), (r3 p hp8).2 (by omega)]
        congr 1
        show _ = bitE (gd (aL A)) y
        unfold bitE
        rw [if_neg (fun z => hp (i.1.2.2.2.2.2.2.2.2.1 y z))]
  · rw [o _ (by omega) (by omega) (by omega)]
    refine (r3 p hp8).2 ?_
    have : (gp (aL A) ++ [s]).length ≤ p := z
    simp at this
    omega
  · rw [o _ (by omega) (by omega) (by omega), o _ (by omega) (by omega) (by omega)]
    exact r5.1 b hb
  · rw [o _ (by omega) (by omega) (by omega), r5.2 p hp8]
    congr 1
    unfold lcE
    show _ = lqE A (gp (aL A) ++ [s])[p]?
    by_cases e : p < P
    · rw [List.getElem?_append_left (by omega)]
    · by_cases ep : p = P
      · rw [List.getElem?_append_right (by omega), hP, ep, Nat.sub_self, ← hP, List.getElem?_eq_none (Nat.le_refl _)]
        simp only [List.getElem?_cons_zero, lqE]
        rw [lkr_no ip (xo_none hf hr)]
        rfl
      · rw [List.getElem?_eq_none (by omega), List.getElem?_eq_none (by simp; omega)]
theorem m_forks (s : sM h) (i : IMs A) (ip : IP A) (r : rm (mI h 607) A) {x y z : Int32} {K : Int32 → AH → Prop} (k : mopK h (oPoint A x y z) K) : wX10_forks 606 x y z h K := by
  have h12 := i.1.1
  have h8 := i.1.2.2.2.2.1
  unfold wX10_forks
  simp only [m_isBlock s i.1 r, s.o, true_and]
  unfold oPoint at k
  refine (iv_if (P := _) (Q := _) (fun e => ?_) (fun a ha ea e => ?_) (by omega)).symm
  · rw [e] at k; exact k.1 (Nat.succ_ne_zero _)
  rw [e] at k
  refine (iv_if (P := _) (Q := _) (fun e => ?_) (fun b hb eb e => ?_) (by omega)).symm
  · rw [e] at k; exact k.1 (Nat.succ_ne_zero _)
  rw [e] at k
  refine iv_if (fun e => ?_) (fun c hc ec e => ?_) (by omega)
  · rw [e] at k; exact k.1 (Nat.succ_ne_zero _)
  rw [e] at k
  subst ea eb ec
  simp only at k
  have e0 := r.1.2.1
  have e1 := (r.2.1 a (by omega)).2.2.1
  have e2 := (r.2.1 a (by omega)).2.2.2
  have l1 := lkE_lt i.1 a
  have l2 := stE_lt i.1 a
  simp (disch := omega) only [nI_add, pk_mul, nI_clamp, nI_leI, nI_ltI, nI_eq, vp_in_nI, s.o, s.r1, s.a7, s.l7, nz7, e0, e1, e2, true_and, m_block s (show a < 12 by omega), forall_eq]
  by_cases z1 : a = b ∨ a = c ∨ b = c
  · rw [if_pos z1] at k
    have k1 := k.1 (Nat.succ_ne_zero _)
    refine ⟨fun _ => k1, fun _ => ⟨fun _ => k1, fun _ => ⟨fun _ => absurd z1 (by omega), fun _ => k1⟩⟩⟩
  rw [if_neg z1] at k
  refine ⟨fun z => absurd z (by omega), fun _ => ⟨fun z => absurd z (by omega), fun _ => ⟨fun _ => ?_, fun z => absurd z (by omega)⟩⟩⟩
  by_cases z2 : (gp (aL A)).length = 8
  · rw [if_pos (Or.inl z2)] at k
    exact ⟨fun _ => k.1 (Nat.succ_ne_zero _), fun z => absurd z2 z⟩
  refine ⟨fun z => absurd z z2, fun _ => ?_⟩
  by_cases z3 : (gf (aL A) a).isSome = true
  · rw [if_pos (Or.inr z3)] at k
    have k1 := k.1 (Nat.succ_ne_zero _)
    rcases (gf_p i.1 ha).mp z3 with z4 | z4
    · have := stE_z.mpr z4
      exact ⟨fun _ => k1, fun z => absurd this z⟩
    · exact ⟨fun _ => k1, fun _ => ⟨fun z => absurd z (by omega), fun _ => k1⟩⟩
  rw [if_neg (fun z => z.elim z2 z3)] at k
  obtain ⟨y1, y2, y3⟩ := gf_n i.1 ha z3
  have y4 : ¬ 0 < stE (aL A) a := fun z => y3 (stE_z.mp z)
  have y5 : lkE (aL A) a = 0 := by
    by_cases z : lkE (aL A) a = 0
    · exact z
    · exact absurd ((gf_p i.1 ha).mpr (Or.inr z)) z3
  refine ⟨fun z => absurd z y4, fun _ => ⟨fun _ => ?_, fun z => absurd z (by omega)⟩⟩
  generalize hP : (gp (aL A)).length = P at *
  have c1 : mf [607] [] h (uI (uI (uI h 607 (81 + 5 * P + 0) (nI a)) 607 (81 + 5 * P + 1) (nI b)) 607 (81 + 5 * P + 2) (nI c)) := (mf.ui (by decide) (by decide)).tr ((mf.ui (by decide) (by decide)).tr (mf.ui (by decide) (by decide)))
  rw [m_puts (c1.s s) (show a < 12 by omega) (show 3 < 6 by decide)]
  simp (disch := omega) only [isO_uI, isA_uI, ln_uI, mR_uI, isO_uR, isA_uR, ln_uR, mI_uR, isO_uL, isA_uL, ln_uL, mR_uL, mI_uL, mL_uI, mL_uR, isO_uA, isA_uA, ln_uA, mR_uA, mL_uA, mS_uI, mS_uR, mS_uL, mS_uA, s.o, s.r1, s.a7, s.l7, nz7, true_and, nI_add, pk_mul, nI_clamp, nI_leI, nI_ltI, nI_eq, vp_in_nI]
  have c2 : mf [607] [] h (uI (uI (uI (uI (uI h 607 (81 + 5 * P + 0) (nI a)) 607 (81 + 5 * P + 1) (nI b)) 607 (81 + 5 * P + 2) (nI c)) 607 (9 + 6 * a + 3) (nI (P + 1))) 607 1 (nI (P + 1))) := c1.tr ((mf.ui (by decide) (by decide)).tr (mf.ui (by decide) (by decide)))
  refine k.end (c2.s s) rfl (c2.mo (by decide) (by decide)) ?_ rfl
  rw [mI_up, mI_up, mI_up, mI_up, mI_up]
  have := fork_rm i ip r (l := b) (t := c) ha (by omega) y1 y2 y3
  rw [hP] at this
  exact this
end FK
