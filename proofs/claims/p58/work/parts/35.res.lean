/-! THE CLASS'S ROUTES: reserved -/
section RE
variable {h : AH} {S a : Nat} {A : AG} {G : LG}
def cx (G : LG) : Nat → List Nat → Prop
  | _, [] => True
  | b, c :: l => ex G b c ∧ cx G c l
theorem lp_cx {to : Nat} (i : IL G) (x : BT G to) : ∀ (l : List Nat) (b : Nat), b < gn G → lp G to b l → cx G b l := by
  intro l
  induction l with
  | nil => intro b _ _; exact True.intro
  | cons c l ih =>
    intro b hb h
    obtain ⟨-, h1, h2, -⟩ := rt_cons i x hb h.2.1
    exact ⟨h1, ih c h2 h.2.2⟩
theorem lp_last {to : Nat} : ∀ (l : List Nat) (b : Nat), lp G to b l → l ≠ [] → l.getLast? = some to := by
  intro l
  induction l with
  | nil => intro b _ h; exact absurd rfl h
  | cons c l ih =>
    intro b h _
    cases l with
    | nil =>
      have : c = to := h.2.2
      rw [this]; rfl
    | cons e l =>
      have := ih c h.2.2 (by simp)
      rw [List.getLast?_cons_cons]
      exact this
theorem rtF {to b : Nat} (i : IL G) (x : BT G to) (hb : b < gn G) (hn : nx G to b ≠ none) : (∀ y ∈ rt G b to, y < gn G) ∧ (b :: rt G b to).Nodup ∧ (rt G b to).length ≤ 11 ∧ rt G b to ≠ [] ∧ cx G b (rt G b to) ∧ (rt G b to).getLast? = some to := by
  cases hn' : nx G to b with
  | none => exact absurd hn' hn
  | some c =>
    obtain ⟨e1, -, -, -, d, -, hd, -⟩ := rt_cons i x hb hn'
    obtain ⟨h1, -, h2, h3, h4⟩ := rt_all i x hb hd
    have hne : rt G b to ≠ [] := by rw [e1]; simp
    exact ⟨h2, h3, h4, hne, lp_cx i x _ b hb h1, lp_last _ b h1 hne⟩
theorem gd_t1 {b c : Nat} (hd : gd G < 2 ^ 12) (hb : b < 12) : gd (turn1 G b c) < 2 ^ 12 := by
  unfold turn1
  by_cases e1 : gf G b = some c
  · rw [if_pos e1]; exact Nat.lt_of_le_of_lt (clr_le _ _) hd
  · rw [if_neg e1]
    by_cases e2 : gr G b = some c
    · rw [if_pos e2]; exact or_lt hd (b12 b hb)
    · rw [if_neg e2]; exact hd
theorem xo_t1 {b c : Nat} (hd : gd G < 2 ^ 12) (h : ex G b c) : xo (turn1 G b c) b = some c := by
  unfold turn1
  by_cases e1 : gf G b = some c
  · rw [if_pos e1]
    show (if (clr (gd G) b).testBit b then gr G b else gf G b) = some c
    rw [clr_bit (by omega)]
    simpa using e1
  · rw [if_neg e1]
    have e2 := h.resolve_left e1
    rw [if_pos e2]
    show (if (gd G ||| 2 ^ b).testBit b then gr G b else gf G b) = some c
    rw [tb_or]
    simpa using e2
theorem xo_t1o {b c y : Nat} (hd : gd G < 2 ^ 12) (h : y ≠ b) : xo (turn1 G b c) y = xo G y := by
  have hb : ¬ b = y := fun z => h z.symm
  unfold turn1
  by_cases e1 : gf G b = some c
  · rw [if_pos e1]
    show (if (clr (gd G) b).testBit y then gr G y else gf G y) = xo G y
    rw [clr_bit (by omega)]
    simp [hb, xo]
  · rw [if_neg e1]
    by_cases e2 : gr G b = some c
    · rw [if_pos e2]
      show (if (gd G ||| 2 ^ b).testBit y then gr G y else gf G y) = xo G y
      rw [tb_or]
      simp [hb, xo]
    · rw [if_neg e2]
theorem tnr_d : ∀ (l : List Nat) (G : LG) (b : Nat), gd G < 2 ^ 12 → b < 12 → (∀ y ∈ l, y < 12) → gd (tnr G b l) < 2 ^ 12 := by
  intro l
  induction l with
  | nil => intro G b hd _ _; exact hd
  | cons c l ih => intro G b hd hb hl; exact ih _ c (gd_t1 hd hb) (hl c List.mem_cons_self) (fun y hy => hl y (List.mem_cons_of_mem _ hy))
theorem tnr_o : ∀ (l : List Nat) (G : LG) (b y : Nat), gd G < 2 ^ 12 → b < 12 → (∀ y ∈ l, y < 12) → y ∉ b :: l → xo (tnr G b l) y = xo G y := by
  intro l
  induction l with
  | nil => intro G b y _ _ _ _; rfl
  | cons c l ih =>
    intro G b y hd hb hl hy
    show xo (tnr (turn1 G b c) c l) y = xo G y
    rw [ih _ c y (gd_t1 hd hb) (hl c List.mem_cons_self) (fun z hz => hl z (List.mem_cons_of_mem _ hz)) (fun z => hy (List.mem_cons_of_mem _ z))]
    exact xo_t1o hd (fun z => hy (z ▸ List.mem_cons_self))
theorem led_tnr : ∀ (l : List Nat) (G : LG) (b : Nat), gd G < 2 ^ 12 → b < 12 → (∀ y ∈ l, y < 12) → (b :: l).Nodup → cx G b l → led (tnr G b l) b l := by
  intro l
  induction l with
  | nil => intro G b _ _ _ _ _; exact True.intro
  | cons c l ih =>
    intro G b hd hb hl hn hc
    have hd' := gd_t1 (c := c) hd hb
    have hl' := fun z hz => hl z (List.mem_cons_of_mem _ hz)
    have hn' := List.nodup_cons.mp hn
    refine ⟨?_, ?_⟩
    · show xo (tnr (turn1 G b c) c l) b = some c
      rw [tnr_o l _ c b hd' (hl c List.mem_cons_self) hl' hn'.1]
      exact xo_t1 hd hc.1
    · refine ih (turn1 G b c) c hd' (hl c List.mem_cons_self) hl' hn'.2 ?_
      obtain ⟨-, -, f3, f4, -⟩ := turn1_fix G b c
      have key : ∀ (m : List Nat) (y : Nat), cx G y m → cx (turn1 G b c) y m := by
        intro m
        induction m with
        | nil => intro y _; exact True.intro
        | cons z m ih => intro y hy; exact ⟨by unfold ex; rw [f3, f4]; exact hy.1, ih z hy.2⟩
      exact key l c hc.2
theorem led_o {G' : LG} : ∀ (l : List Nat) (b : Nat), (∀ y ∈ b :: l, xo G' y = xo G y) → led G b l → led G' b l := by
  intro l
  induction l with
  | nil => intro b _ _; exact True.intro
  | cons c l ih => intro b h hl; exact ⟨(h b List.mem_cons_self).trans hl.1, ih c (fun y hy => h y (List.mem_cons_of_mem _ hy)) hl.2⟩
/-- one train's cell changes -/
theorem rpS.upd (p : rpS h S A) {j : Nat} {t : TG} {f : TG → TG} {h' : AH} (ht : (aT A)[j]? = some t) (hu : ∀ j' u, (aT A)[j']? = some u → tn u = tn t → j' = j) (c : chi (mR h (S + 33) j) (mR h (S + 33) j + 1) h h') (q : cnT h' (mR h (S + 33) j) (f t)) : rpS h' S (upT A (tn t) f) := by
  obtain ⟨s, r, c1, c2, c3, c4, c5, c6, c7, c8, c9, c10⟩ := p
  have hj : j < 8 := Nat.lt_of_lt_of_le (List.getElem?_eq_some_iff.mp ht).1 c9
  have htr := s.tR hj
  have e0 : mI h' S = mI h S := c.2.2.2.2 S (by omega)
  refine ⟨s.ch c, r.fr c.chg (by omega), ?_, by rw [e0]; exact c2, by rw [e0]; exact c3, by rw [e0]; exact c4, by rw [e0]; exact c5, by rw [c.2.2.2.1]; exact c6, fun i u hu' => ?_, fun i q hq => ?_, ?_, c10⟩
  · rw [e0]
    show _ = nI ((aT A).map _).length
    rw [List.length_map]; exact c1
  · have hu2 : ((aT A).map (fun u => if tn u = tn t then f u else u))[i]? = some u := hu'
    rw [List.getElem?_map] at hu2
    cases hv : (aT A)[i]? with
    | none => rw [hv] at hu2; cases hu2
    | some v =>
      rw [hv] at hu2
      cases hu2
      rw [c.2.2.1]
      show cnT h' _ (if tn v = tn t then f v else v)
      by_cases e : tn v = tn t
      · have := hu i v hv e
        subst this
        rw [ht] at hv
        cases hv
        rw [if_pos e]
        exact q
      · rw [if_neg e]
        have hi : i < 8 := Nat.lt_of_lt_of_le (List.getElem?_eq_some_iff.mp hv).1 c9
        have hne : mR h (S + 33) i ≠ mR h (S + 33) j := fun z => by
          have := s.ti hi hj z
          subst this
          rw [ht] at hv
          cases hv
          exact e rfl
        exact (c7 i v hv).ch (c.2.2.2.2 _ (by omega))
  · rw [c.2.2.2.2 (S + 34) (by omega)]; exact c8 i q hq
  · show ((aT A).map _).length ≤ 8
    rw [List.length_map]; exact c9
/-- the queue's cells change -/
theorem rpS.que (p : rpS h S A) {h' : AH} {Q : List Nat} (c : chi (S + 34) (S + 35) h h') (hQ : Q.length ≤ 8) (q : ∀ i x, Q[i]? = some x → mI h' (S + 34) i = nI x) : rpS (uI h' S 4 (nI Q.length)) S (wQ A Q) := by
  obtain ⟨s, r, c1, c2, c3, c4, c5, c6, c7, c8, c9, c10⟩ := p
  have e0 : mI h' S = mI h S := c.2.2.2.2 S (by omega)
  have cA : chi S (S + 43) h (uI h' S 4 (nI Q.length)) := (c.mo (by omega) (by omega)).tr (chi.uI (by omega) (by omega))
  refine ⟨s.ch cA, (r.fr c.chg (by omega)).uI (by omega), ?_, ?_, ?_, ?_, ?_, ?_, fun i t ht => ?_, fun i x hx => ?_, c9, hQ⟩
  · simp [mI_uI, e0]; exact c1
  · simp [mI_uI, wQ, aQ]
  · simp [mI_uI, e0]; exact c3
  · simp [mI_uI, e0]; exact c4
  · simp [mI_uI, e0]; exact c5
  · rw [cA.2.2.2.1]; exact c6
  · have hi : i < 8 := Nat.lt_of_lt_of_le (List.getElem?_eq_some_iff.mp ht).1 c9
    have := s.tR hi
    rw [cA.2.2.1]
    exact (c7 i t ht).ch (by rw [mI_o (by omega), c.2.2.2.2 _ (by omega)])
  · rw [mI_o (by omega)]; exact q i x hx
theorem c_reserveRoute (p : rpS h S A) (i : IT A) {j : Nat} {t : TG} (ht : (aT A)[j]? = some t) (hu : ∀ j' u, (aT A)[j']? = some u → tn u = tn t → j' = j) (hn : nx (aL A) (td t) (tb t) ≠ none) {K : AH → Prop} (k : ∀ h', chi S (S + 43) h h' → mI h' (S + 34) = mI h (S + 34) → mI h' S = mI h S → rpS h' S (setT A t) → K h') : wX7_reserveRoute S (mR h (S + 33) j) h K := by
  have w := p.2.1
  have h12 := w.1.n12
  have hj : j < 8 := Nat.lt_of_lt_of_le (List.getElem?_eq_some_iff.mp ht).1 i.1
  have hm := List.mem_of_getElem? ht
  obtain ⟨t1, t2, t3⟩ := i.2 t hm
  have q := p.t ht
  have htr := p.1.tR hj
  have hO := p.1.tO hj
  obtain ⟨r1, r2, r3, r4, r5, r6⟩ := rtF w.1.2.2 (w.2.2.b t2) t1 hn
  have hd := w.1.2.2.d12
  have hled := led_tnr _ (aL A) (tb t) hd (by omega) (fun y hy => by have := r1 y hy; omega) r2 r5
  obtain ⟨f1, f2, f3, f4, f5, f6, f7, f8, f9, f10⟩ := tnr_fix (rt (aL A) (tb t) (td t)) (aL A) (tb t)
  unfold wX7_reserveRoute
  simp only [p.1.o, p.1.m0, p.1.m1, p.1.m2, p.1.a33, p.1.l33, p.1.a34, p.1.l34, p.1.lg.o, hO, q.2.1, q.2.2.1, true_and]
  refine c_turnForRoute w t1 t2 hn (fun g cg rg => ?_)
  have cg' : chi (S + 1) (S + 33) h g := cg.mo (by omega) (by omega)
  have pg := p.line cg' rg
  have qg := pg.t (i := j) (t := t) ht
  have e33 : mR g (S + 33) j = mR h (S + 33) j := by rw [cg.2.2.1]
  rw [e33] at qg
  have hOg : isO g (mR h (S + 33) j) 6 := by
    have := pg.1.tO hj
    rw [e33] at this
    exact this
  rw [show ∀ P : Int32 → AH → Prop, wX4_routeBlocks (mR g S 0) (mI g (mR h (S + 33) j) 1) (mI g (mR h (S + 33) j) 2) g P ↔ P (nI (bts (rt (aL A) (tb t) (td t)))) g from fun P => by
    rw [pg.1.m0, qg.2.1, qg.2.2.1]
    have := c_routeBlocks (K := P) rg (b := tb t) (t := td t) (by rw [f1]; exact t1) (by rw [f1]; exact t2)
    rw [f10] at this
    exact this]
  generalize hc : mR h (S + 33) j = c at *
  have hS : S ≠ c := by omega
  obtain ⟨e, l, hel⟩ : ∃ e l, rt (aL A) (tb t) (td t) = e :: l := List.exists_cons_of_ne_nil r4
  have hxo : xo (tnr (aL A) (tb t) (rt (aL A) (tb t) (td t))) (tb t) = some e := by
    have := hled
    rw [hel] at this ⊢
    exact this.1
  have he : e < gn (aL A) := r1 e (by rw [hel]; exact List.mem_cons_self)
  have r9 : rpL (uI g c 3 (nI (bts (rt (aL A) (tb t) (td t))))) (S + 1) (tnr (aL A) (tb t) (rt (aL A) (tb t) (td t))) := rg.uI (by omega)
  simp only [pg.1.o, pg.1.m0, pg.1.m1, pg.1.m2, pg.1.a33, pg.1.l33, pg.1.a34, pg.1.l34, pg.1.lg.o, hOg, true_and, forall_eq, mI_uI, hS, false_and, if_false, show ¬ (1 : Nat) = 3 by omega, and_false, qg.2.1]
  rw [c_exitOf r9.1 (by rw [f1]; exact t1), hxo, oI_some, c_lengthOf r9.1 (by rw [f1]; exact he), f2]
  have hOg' : isO (uI g c 3 (nI (bts (rt (aL A) (tb t) (td t))))) c 6 := hOg
  have e7 : mI g S 7 = nI (aM A) := by rw [cg.2.2.2.2 S (by omega)]; exact p.2.2.2.2.2.2.1
  rw [e7, nI_add]
  have o9 : isO g (S + 1) 2 := pg.1.lg.o
  simp only [hOg', isO_uI, pg.1.lg.o, hOg, true_and]
  have cA : chi c (c + 1) g (uI (uI g c 3 (nI (bts (rt (aL A) (tb t) (td t))))) c 4 (nI (aM A + gl (aL A) e))) := (chi.uI (by omega) (by omega)).tr (chi.uI (by omega) (by omega))
  refine k _ ((cg.mo (by omega) (by omega)).tr (cA.mo (by omega) (by omega))) ?_ ?_ ?_
  · rw [mI_o (by omega), mI_o (by omega), cg.2.2.2.2 _ (by omega)]
  · rw [mI_o (by omega), mI_o (by omega), cg.2.2.2.2 _ (by omega)]
  · have := pg.upd (f := fun u => (tn u, tb u, td u, rtT A t, aM A + gl (aL A) ((rtT A t).headD 0), tl u)) (h' := uI (uI g c 3 (nI (bts (rt (aL A) (tb t) (td t))))) c 4 (nI (aM A + gl (aL A) e))) ht hu (by rw [e33]; exact cA) ?_
    · exact this
    · rw [e33]
      refine ⟨?_, ?_, ?_, ?_, fun _ => ?_, ?_⟩
      · simp [mI_uI]; exact qg.1
      · simp [mI_uI]; exact qg.2.1
      · simp [mI_uI]; exact qg.2.2.1
      · simp [mI_uI, tr, rtT]
      · simp [mI_uI, tu, rtT, hel]
      · simp [mI_uI]; exact qg.2.2.2.2.2
end RE
