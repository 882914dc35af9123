/-! THE MODEL'S WAY from a block to a block -/
def wyM (g : AH) (l : List Nat) : Prop := mI g 606 20 = nI l.length ∧ ∀ k c, l[k]? = some c → mI g 616 k = nI c
def tie (G : LG) (to b e : Nat) : Prop := ∃ d d', ds G to b = some d ∧ ds G to e = some d' ∧ d = d' + 16 * gl G e + 1
def bsI (G : LG) (to b j : Nat) (o : Option Nat) : Prop := (∀ y, o = some y → ∃ k, k < j ∧ xE G b k = some y ∧ tie G to b y) ∧ ∀ k, k < j → ∀ e, xE G b k = some e → tie G to b e → ∃ y, o = some y ∧ y ≤ e
section LE
variable {h g : AH} {A : AG} {G : LG} {to : Nat}
theorem bsI.two (i : IL G) (x : BT G to) {b c : Nat} {o : Option Nat} (hb : b < gn G) (hn : nx G to b = some c) (u : bsI G to b 2 o) : o = some c := by
  obtain ⟨-, e2, e3, hbt, d1, d2, e4, e5, e6⟩ := rt_cons i x hb hn
  have : ∃ k, k < 2 ∧ xE G b k = some c := by
    rcases ex_xE i hb e2 with z | z
    · exact ⟨0, by decide, z⟩
    · exact ⟨1, by decide, z⟩
  obtain ⟨k, hk, hx⟩ := this
  obtain ⟨y, hy, hle⟩ := u.2 k hk c hx ⟨d1, d2, e4, e5, e6⟩
  obtain ⟨k2, -, hx2, d3, d4, f1, f2, f3⟩ := u.1 y hy
  obtain ⟨e', d', h1, h2, h3, h4, h5⟩ := (x.2.2 b hb hbt).2 d1 e4
  rw [hn] at h1
  cases h1
  rw [e4] at f1
  cases f1
  have := (h5 y d4 (xE_ex hx2) f2).2 f3
  rw [hy, show y = c by omega]
theorem m_sel (s : sM h) (i : IL (aL A)) (x : BT (aL A) to) (r : rm (mI h 607) A) (m : msr h (aL A) to) {b j d : Nat} (hb : b < gn (aL A)) (hd : ds (aL A) to b = some d) (hj : j < 2) {o : Option Nat} (u : bsI (aL A) to b j o) {X : Int32 → AH → Prop} {c : Nat → Int32 → Int32 → Int32 → AH → Prop} {n : Nat} {t' r' : Int32} (kk : ∀ o, bsI (aL A) to b (j + 1) o → wX10_leads_L49 X c n 606 t' r' (nI b) (oI o) (nI (j + 1)) h) : wX10_leads_L49 X c (n + 1) 606 t' r' (nI b) (oI o) (nI j) h := by
  have h12 := i.1
  have hob : ∀ y, o = some y → y < gn (aL A) := fun y hy => by
    obtain ⟨k, -, hx, -⟩ := u.1 y hy
    exact (ex_lt i hb (xE_ex hx)).1
  have skip : (∀ e, xE (aL A) b j = some e → ¬ tie (aL A) to b e) → wX10_leads_L49 X c n 606 t' r' (nI b) (oI o) (nI (j + 1)) h := fun hno => kk o ⟨fun y hy => by
    obtain ⟨k, hk, hx⟩ := u.1 y hy
    exact ⟨k, by omega, hx⟩, fun k hk e he ht => by
    by_cases z : k = j
    · subst z; exact absurd ht (hno e he)
    · exact u.2 k (by omega) e he ht⟩
  rw [wX10_leads_L49]; dsimp only
  simp (disch := omega) only [m_exit s i r hb hj, s.o, nI_add, pk_mul, nI_clamp, nI_leI, nI_ltI, nI_eq, vp_in_nI, true_and]
  refine ⟨fun z => absurd z (by omega), fun _ => ?_⟩
  cases ho : xE (aL A) b j with
  | none => exact ⟨fun _ => skip (fun e he => by rw [ho] at he; cases he), fun z => absurd rfl z⟩
  | some e =>
    have he := (ex_lt i hb (xE_ex ho)).1
    have h9 := i.2.1 e he
    refine ⟨fun z => absurd z (by rw [oI_some, nI_nem (by omega)]; simp), fun _ => ?_⟩
    have f2 := (m b hb).2 d hd
    have b99 := rt_sl i x hb hd
    obtain ⟨-, b1, -, -, b2⟩ := rt_all i x hb hd
    have g1 := (r.2.1 e (by omega)).1 he
    rw [oI_some]
    cases hde : ds (aL A) to e with
    | none =>
      have f1 := (m e he).1 hde
      simp (disch := omega) only [s.r10, s.a14, s.l14, nI_add, pk_mul, nI_clamp, nI_leI, nI_ltI, nI_eq, vp_in_nI, f1, true_and]
      refine ⟨fun _ => skip (fun e2 he2 => ?_), fun z => absurd True.intro z⟩
      rw [ho] at he2
      cases he2
      rintro ⟨-, d2, -, q2, -⟩
      rw [hde] at q2
      cases q2
    | some d' =>
      have f1 := (m e he).2 d' hde
      have e99 := rt_sl i x he hde
      obtain ⟨-, c1, -, -, c2⟩ := rt_all i x he hde
      simp (disch := omega) only [m_block s (show e < 12 by omega), s.r10, s.r11, s.a14, s.a15, s.l14, s.l15, nI_add, pk_mul, nI_clamp, nI_leI, nI_ltI, nI_eq, vp_in_nI, f1.1, true_and]
      rw [g1]
      simp (disch := omega) only [s.o, s.r10, s.r11, s.a14, s.a15, s.l14, s.l15, nI_add, pk_mul, nI_clamp, nI_leI, nI_ltI, nI_eq, vp_in_nI, f1, f2, true_and]
      refine ⟨fun z => absurd z (by omega), fun _ => ⟨fun z1 => skip (fun e2 he2 => ?_), fun z1 => ⟨fun z2 => ?_, fun z2 => skip (fun e2 he2 => ?_)⟩⟩⟩
      · rw [ho] at he2
        cases he2
        rintro ⟨d3, d4, q1, q2, q3⟩
        rw [hd] at q1
        rw [hde] at q2
        cases q1
        cases q2
        omega
      · have htie : tie (aL A) to b e := ⟨d, d', hd, hde, by omega⟩
        have new : (∀ y, o = some y → ¬ y ≤ e) → wX10_leads_L49 X c n 606 t' r' (nI b) (nI e) (nI (j + 1)) h := fun hno => by
          rw [← oI_some]
          refine kk (some e) ⟨fun y hy => by cases hy; exact ⟨j, by omega, ho, htie⟩, fun k hk e2 he2 ht2 => ⟨e, rfl, ?_⟩⟩
          by_cases z : k = j
          · subst z; rw [ho] at he2; cases he2; exact Nat.le_refl _
          · obtain ⟨y, hy, hle⟩ := u.2 k (by omega) e2 he2 ht2
            have := hno y hy
            omega
        have old : ∀ y, o = some y → y ≤ e → wX10_leads_L49 X c n 606 t' r' (nI b) (oI o) (nI (j + 1)) h := fun y hy hle => kk o ⟨fun y hy => by
          obtain ⟨k, hk, hx⟩ := u.1 y hy
          exact ⟨k, by omega, hx⟩, fun k hk e2 he2 ht2 => by
          by_cases z : k = j
          · subst z; rw [ho] at he2; cases he2; exact ⟨y, hy, hle⟩
          · exact u.2 k (by omega) e2 he2 ht2⟩
        cases o with
        | none => exact ⟨fun _ => new (fun y hy => by cases hy), fun z => absurd rfl z⟩
        | some y =>
          have hy := hob y rfl
          refine ⟨fun z => absurd z (by rw [oI_some, nI_nem (by omega)]; simp), fun _ => ?_⟩
          rw [oI_some, nI_leI (by omega) (by omega)]
          rw [oI_some] at old
          exact ⟨fun z => old y rfl z, fun z => new (fun y2 hy2 => by cases hy2; exact z)⟩
      · rw [ho] at he2
        cases he2
        rintro ⟨d3, d4, q1, q2, q3⟩
        rw [hd] at q1
        rw [hde] at q2
        cases q1
        cases q2
        omega
theorem msr.mo (m : msr h G to) {C F : List Nat} (c : mf C F h g) (h14 : 614 ∉ C) (h15 : 615 ∉ C) : msr g G to := by
  unfold msr
  rw [c.c (by decide) h14, c.c (by decide) h15]
  exact m
theorem wyM.add {l : List Nat} (w : wyM g l) (hl : l.length < 2 ^ 30) (b : Nat) {g2 : AH} (e : g2 = uI (uI g 616 l.length (nI b)) 606 20 (nI (l.length + 1))) : wyM g2 (l ++ [b]) := by
  subst e
  refine ⟨by simp [mI_uI], fun k c hk => ?_⟩
  rw [mI_uI, if_neg (by omega), mI_uI]
  by_cases e : k = l.length
  · subst e
    rw [List.getElem?_append_right (Nat.le_refl _), Nat.sub_self] at hk
    simp at hk
    simp [hk]
  · rw [if_neg (fun z => e z.2)]
    have hlt := (List.getElem?_eq_some_iff.mp hk).1
    simp at hlt
    rw [List.getElem?_append_left (by omega)] at hk
    exact w.2 k c hk
theorem m_L38 (s : sM h) (i : IL (aL A)) (x : BT (aL A) to) (ht : to < gn (aL A)) (r : rm (mI h 607) A) {from_ d0 : Nat} (hf : from_ < gn (aL A)) (hd0 : ds (aL A) to from_ = some d0) {X : Int32 → AH → Prop} (kk : ∀ g, mf [614, 615, 616] [20] h g → wyM g (from_ :: rt (aL A) from_ to) → X (nI (sl (aL A) (rt (aL A) from_ to))) g) : ∀ l b pre d g, rt (aL A) b to = l → b < gn (aL A) → ds (aL A) to b = some d → pre ++ (b :: l) = from_ :: rt (aL A) from_ to → mf [614, 615, 616] [20] h g → msr g (aL A) to → wyM g (pre ++ [b]) → wX10_leads_L38 X (l.length + 1) 606 (nI from_) (nI to) (nI b) g := by
  have h12 := i.1
  obtain ⟨-, -, -, -, fl⟩ := rt_all i x hf hd0
  intro l
  induction l with
  | nil =>
    intro b pre d g hl hb hd he cg m w
    have s' := cg.s s
    have hbt : b = to := by
      have := (rt_all i x hb hd).1
      rw [hl] at this
      exact this
    rw [List.length_nil, wX10_leads_L38]; dsimp only
    have f1 := (m from_ hf).2 d0 hd0
    refine ⟨fun _ => ⟨s'.o, ?_⟩, fun z => absurd (by rw [hbt]) z⟩
    simp (disch := omega) only [s'.r10, s'.a14, s'.l14, nI_add, pk_mul, nI_clamp, nI_leI, nI_ltI, nI_eq, vp_in_nI, f1, true_and]
    exact kk g cg (he ▸ w)
  | cons c l ih =>
    intro b pre d g hl hb hd he cg m w
    have s' := cg.s s
    have lp1 := (rt_all i x hb hd).1
    rw [hl] at lp1
    obtain ⟨hbt, hn, -⟩ := lp1
    obtain ⟨e1, e2, e3, -, d1, d2, e4, e5, -⟩ := rt_cons i x hb hn
    have hl2 : rt (aL A) c to = l := by
      rw [hl] at e1
      exact (List.cons.inj e1).2.symm
    have hlen := congrArg List.length he
    simp only [List.length_append, List.length_cons] at hlen
    rw [List.length_cons, wX10_leads_L38]; dsimp only
    simp (disch := omega) only [nI_add, pk_mul, nI_clamp, nI_leI, nI_ltI, nI_eq, vp_in_nI]
    refine ⟨fun z => absurd z hbt, fun _ => ⟨3, ?_⟩⟩
    have r' := r.fr cg (by decide)
    have u0 : bsI (aL A) to b 0 none := ⟨fun y hy => (by cases hy), fun k hk => absurd hk (by omega)⟩
    rw [← oI_none]
    refine m_sel s' i x r' m hb hd (by decide) u0 (fun o1 u1 => m_sel s' i x r' m hb hd (by decide) u1 (fun o2 u2 => ?_))
    have ho := u2.two i x hb hn
    subst ho
    rw [oI_some, wX10_leads_L49]; dsimp only
    have w1 := w.1
    simp only [List.length_append, List.length_cons, List.length_nil, Nat.zero_add] at w1
    simp (disch := omega) only [nI_add, pk_mul, nI_clamp, nI_leI, nI_ltI, nI_eq, vp_in_nI, s'.o, s'.r12, s'.a16, s'.l16, w1, true_and, forall_eq, isO_uI, isA_uI, ln_uI, mR_uI, isO_uR, isA_uR, ln_uR, mI_uR, isO_uL, isA_uL, ln_uL, mR_uL, mI_uL, mL_uI, mL_uR, isO_uA, isA_uA, ln_uA, mR_uA, mL_uA, mS_uI, mS_uR, mS_uL, mS_uA]
    refine ⟨fun _ => ⟨by decide, ?_⟩, fun z => absurd (by decide) z⟩
    have h6 : (606 : Nat) = 616 ↔ False := by decide
    simp (disch := omega) only [mI_uI, h6, false_and, if_false, w1, nI_add, pk_mul, nI_clamp, nI_leI, nI_ltI, nI_eq, vp_in_nI]
    have cg2 : mf [614, 615, 616] [20] g (uI (uI g 616 (pre.length + 1) (nI c)) 606 20 (nI (pre.length + 1 + 1))) := (mf.ui (by decide) (by decide)).tr (mf.uf (by decide))
    have cg3 : mf [616] [20] g (uI (uI g 616 (pre.length + 1) (nI c)) 606 20 (nI (pre.length + 1 + 1))) := (mf.ui (by decide) (by decide)).tr (mf.uf (by decide))
    refine ih c (pre ++ [b]) d2 _ hl2 e3 e5 (by simpa using he) (cg.tr cg2) (m.mo cg3 (by decide) (by decide)) (w.add (by simp; omega) c (by simp))
theorem m_leads (s : sM h) (i : IL (aL A)) (x : BT (aL A) to) (ht : to < gn (aL A)) (r : rm (mI h 607) A) {b : Nat} (hb : b < gn (aL A)) {K : Int32 → AH → Prop} (kN : ds (aL A) to b = none → ∀ g, mf [614, 615, 616] [20] h g → mI g 606 20 = nI 0 → K (-1) g) (kS : ∀ d, ds (aL A) to b = some d → ∀ g, mf [614, 615, 616] [20] h g → wyM g (b :: rt (aL A) b to) → K (nI (sl (aL A) (rt (aL A) b to))) g) : wX10_leads 606 (nI b) (nI to) h K := by
  have h12 := i.1
  unfold wX10_leads
  refine ⟨s.o, m_measures s i x ht r (fun g c m => ?_)⟩
  have s' := c.s s
  have c0 : mf [614, 615, 616] [20] h g := c.mo (by decide) (by decide)
  have c1 : mf [614, 615, 616] [20] g (uI g 606 20 (nI 0)) := mf.uf (by decide)
  have h6 : (614 : Nat) = 606 ↔ False := by decide
  refine ⟨s'.o, fun g1 hg1 => ?_⟩
  subst hg1
  cases hd : ds (aL A) to b with
  | none =>
    have f1 := (m b hb).1 hd
    simp (disch := omega) only [s'.r10, s'.a14, s'.l14, nI_add, pk_mul, nI_clamp, nI_leI, nI_ltI, nI_eq, vp_in_nI, f1, true_and, mI_uI, h6, false_and, if_false]
    exact ⟨fun z => absurd True.intro z, fun _ => kN hd _ (c0.tr c1) (by simp [mI_uI])⟩
  | some d =>
    have f1 := (m b hb).2 d hd
    have b99 := rt_sl i x hb hd
    simp (disch := omega) only [s'.r10, s'.r12, s'.a14, s'.l14, s'.a16, s'.l16, nI_add, pk_mul, nI_clamp, nI_leI, nI_ltI, nI_eq, vp_in_nI, f1, true_and, mI_uI, h6, false_and, if_false, forall_eq]
    refine ⟨fun _ => ⟨by decide, (rt (aL A) b to).length + 1, ?_⟩, fun z => absurd z (by omega)⟩
    have c2 : mf [616] [20] g (uI (uI (uI g 606 20 (nI 0)) 616 0 (nI b)) 606 20 (nI 1)) := (mf.uf (by decide)).tr ((mf.ui (by decide) (by decide)).tr (mf.uf (by decide)))
    refine m_L38 s i x ht r hb hd (fun g9 c9 w9 => kS d hd g9 c9 w9) (rt (aL A) b to) b [] d _ rfl hb hd rfl (c0.tr (c2.mo (by decide) (by decide))) (m.mo c2 (by decide) (by decide)) ⟨by simp [mI_uI], fun k c hk => ?_⟩
    have hk0 : k = 0 := by
      have := (List.getElem?_eq_some_iff.mp hk).1
      simp at this
      exact this
    subst hk0
    simp at hk
    simp [mI_uI, hk]
end LE
