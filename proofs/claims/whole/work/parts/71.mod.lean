/-! THE MODEL'S CELLS -/
def sM (h : AH) : Prop := mS h 606 = (8, 0) ∧ (mR h 606 1 = 607 ∧ mR h 606 2 = 608 ∧ mR h 606 3 = 609 ∧ mR h 606 4 = 610 ∧ mR h 606 7 = 611 ∧ mR h 606 8 = 612 ∧ mR h 606 9 = 613 ∧ mR h 606 10 = 614 ∧ mR h 606 11 = 615 ∧ mR h 606 12 = 616 ∧ mR h 606 13 = 617 ∧ mR h 606 14 = 618) ∧ mS h 607 = (100, 281) ∧ mS h 608 = (100, 281) ∧ mS h 609 = (100, 281) ∧ mS h 610 = (100, 2248) ∧ mS h 611 = (100, 60) ∧ mS h 612 = (100, 240) ∧ mS h 613 = (100, 80) ∧ mS h 614 = (100, 12) ∧ mS h 615 = (100, 12) ∧ mS h 616 = (100, 12) ∧ mS h 617 = (100, 8) ∧ mS h 618 = (100, 8)
section MD
variable {h g : AH}
theorem sM.o (s : sM h) : isO h 606 7 := s.1
theorem sM.r1 (s : sM h) : mR h 606 1 = 607 := s.2.1.1
theorem sM.r2 (s : sM h) : mR h 606 2 = 608 := s.2.1.2.1
theorem sM.r3 (s : sM h) : mR h 606 3 = 609 := s.2.1.2.2.1
theorem sM.r4 (s : sM h) : mR h 606 4 = 610 := s.2.1.2.2.2.1
theorem sM.r7 (s : sM h) : mR h 606 7 = 611 := s.2.1.2.2.2.2.1
theorem sM.r8 (s : sM h) : mR h 606 8 = 612 := s.2.1.2.2.2.2.2.1
theorem sM.r9 (s : sM h) : mR h 606 9 = 613 := s.2.1.2.2.2.2.2.2.1
theorem sM.r10 (s : sM h) : mR h 606 10 = 614 := s.2.1.2.2.2.2.2.2.2.1
theorem sM.r11 (s : sM h) : mR h 606 11 = 615 := s.2.1.2.2.2.2.2.2.2.2.1
theorem sM.r12 (s : sM h) : mR h 606 12 = 616 := s.2.1.2.2.2.2.2.2.2.2.2.1
theorem sM.r13 (s : sM h) : mR h 606 13 = 617 := s.2.1.2.2.2.2.2.2.2.2.2.2.1
theorem sM.r14 (s : sM h) : mR h 606 14 = 618 := s.2.1.2.2.2.2.2.2.2.2.2.2.2
theorem sM.a7 (s : sM h) : isA h 607 0 := congrArg Prod.fst s.2.2.1
theorem sM.l7 (s : sM h) : ln h 607 = 281 := congrArg Prod.snd s.2.2.1
theorem sM.a8 (s : sM h) : isA h 608 0 := congrArg Prod.fst s.2.2.2.1
theorem sM.l8 (s : sM h) : ln h 608 = 281 := congrArg Prod.snd s.2.2.2.1
theorem sM.a9 (s : sM h) : isA h 609 0 := congrArg Prod.fst s.2.2.2.2.1
theorem sM.l9 (s : sM h) : ln h 609 = 281 := congrArg Prod.snd s.2.2.2.2.1
theorem sM.a10 (s : sM h) : isA h 610 0 := congrArg Prod.fst s.2.2.2.2.2.1
theorem sM.l10 (s : sM h) : ln h 610 = 2248 := congrArg Prod.snd s.2.2.2.2.2.1
theorem sM.a11 (s : sM h) : isA h 611 0 := congrArg Prod.fst s.2.2.2.2.2.2.1
theorem sM.l11 (s : sM h) : ln h 611 = 60 := congrArg Prod.snd s.2.2.2.2.2.2.1
theorem sM.a12 (s : sM h) : isA h 612 0 := congrArg Prod.fst s.2.2.2.2.2.2.2.1
theorem sM.l12 (s : sM h) : ln h 612 = 240 := congrArg Prod.snd s.2.2.2.2.2.2.2.1
theorem sM.a13 (s : sM h) : isA h 613 0 := congrArg Prod.fst s.2.2.2.2.2.2.2.2.1
theorem sM.l13 (s : sM h) : ln h 613 = 80 := congrArg Prod.snd s.2.2.2.2.2.2.2.2.1
theorem sM.a14 (s : sM h) : isA h 614 0 := congrArg Prod.fst s.2.2.2.2.2.2.2.2.2.1
theorem sM.l14 (s : sM h) : ln h 614 = 12 := congrArg Prod.snd s.2.2.2.2.2.2.2.2.2.1
theorem sM.a15 (s : sM h) : isA h 615 0 := congrArg Prod.fst s.2.2.2.2.2.2.2.2.2.2.1
theorem sM.l15 (s : sM h) : ln h 615 = 12 := congrArg Prod.snd s.2.2.2.2.2.2.2.2.2.2.1
theorem sM.a16 (s : sM h) : isA h 616 0 := congrArg Prod.fst s.2.2.2.2.2.2.2.2.2.2.2.1
theorem sM.l16 (s : sM h) : ln h 616 = 12 := congrArg Prod.snd s.2.2.2.2.2.2.2.2.2.2.2.1
theorem sM.a17 (s : sM h) : isA h 617 0 := congrArg Prod.fst s.2.2.2.2.2.2.2.2.2.2.2.2.1
theorem sM.l17 (s : sM h) : ln h 617 = 8 := congrArg Prod.snd s.2.2.2.2.2.2.2.2.2.2.2.2.1
theorem sM.a18 (s : sM h) : isA h 618 0 := congrArg Prod.fst s.2.2.2.2.2.2.2.2.2.2.2.2.2
theorem sM.l18 (s : sM h) : ln h 618 = 8 := congrArg Prod.snd s.2.2.2.2.2.2.2.2.2.2.2.2.2
theorem nzM (k : Nat) (h : 64 ≤ k) : nZ ≤ k := h
/-- only numbers have changed: in cells of C, and in the model's fields of F -/
def mf (C F : List Nat) (h g : AH) : Prop := mN g = mN h ∧ mS g = mS h ∧ mR g = mR h ∧ mL g = mL h ∧ (∀ a, a ≠ 606 → a ∉ C → mI g a = mI h a) ∧ ∀ k, k ∉ F → mI g 606 k = mI h 606 k
theorem mf.rf (C F : List Nat) (h : AH) : mf C F h h := ⟨rfl, rfl, rfl, rfl, fun _ _ _ => rfl, fun _ _ => rfl⟩
theorem mf.tr {C F : List Nat} {h g k : AH} (c : mf C F h g) (d : mf C F g k) : mf C F h k := ⟨d.1.trans c.1, d.2.1.trans c.2.1, d.2.2.1.trans c.2.2.1, d.2.2.2.1.trans c.2.2.2.1, fun a h1 h2 => (d.2.2.2.2.1 a h1 h2).trans (c.2.2.2.2.1 a h1 h2), fun k hk => (d.2.2.2.2.2 k hk).trans (c.2.2.2.2.2 k hk)⟩
theorem mf.mo {C F C' F' : List Nat} (c : mf C F h g) (hC : ∀ a ∈ C, a ∈ C') (hF : ∀ a ∈ F, a ∈ F') : mf C' F' h g := ⟨c.1, c.2.1, c.2.2.1, c.2.2.2.1, fun a h1 h2 => c.2.2.2.2.1 a h1 (fun z => h2 (hC a z)), fun k hk => c.2.2.2.2.2 k (fun z => hk (hF k z))⟩
theorem mf.ui {C F : List Nat} {a j : Nat} {v : Int32} (ha : a ∈ C) (h6 : a ≠ 606) : mf C F h (uI h a j v) := ⟨rfl, rfl, rfl, rfl, fun b h1 h2 => mI_o (fun z => h2 (z ▸ ha)), fun k _ => by rw [mI_o (Ne.symm h6)]⟩
theorem mf.uf {C F : List Nat} {k : Nat} {v : Int32} (hk : k ∈ F) : mf C F h (uI h 606 k v) := ⟨rfl, rfl, rfl, rfl, fun b h1 _ => mI_o h1, fun j hj => by rw [mI_uI, if_neg (fun (z : 606 = 606 ∧ j = k) => hj (z.2 ▸ hk))]⟩
theorem mf.s {C F : List Nat} (c : mf C F h g) (s : sM h) : sM g := by
  unfold sM
  rw [c.2.1, c.2.2.1]
  exact s
theorem mf.c {C F : List Nat} (c : mf C F h g) {a : Nat} (h6 : a ≠ 606) (ha : a ∉ C) : mI g a = mI h a := c.2.2.2.2.1 a h6 ha
theorem mf.f {C F : List Nat} (c : mf C F h g) {k : Nat} (hk : k ∉ F) : mI g 606 k = mI h 606 k := c.2.2.2.2.2 k hk
theorem mf.chi {C F : List Nat} (c : mf C F h g) (hC : ∀ a ∈ C, 606 ≤ a ∧ a < 619) : chi 606 619 h g := ⟨c.1, c.2.1, c.2.2.1, c.2.2.2.1, fun a ha => c.2.2.2.2.1 a (by omega) (fun z => by have := hC a z; omega)⟩
theorem nz7 : (nZ ≤ 607) = True := eq_true (by decide)
theorem m_block (s : sM h) {b k : Nat} (hb : b < 12) (hk : k < 6) {K : Int32 → AH → Prop} : wX10_block 606 (nI b) (nI k) h K ↔ K (mI h 607 (9 + 6 * b + k)) h := by
  unfold wX10_block
  simp (disch := omega) only [s.o, s.r1, s.a7, s.l7, nI_add, pk_mul, nI_clamp, nI_leI, nI_ltI, nI_eq, vp_in_nI, true_and]
theorem m_puts (s : sM h) {b k : Nat} {v : Int32} (hb : b < 12) (hk : k < 6) {K : AH → Prop} : wX10_puts 606 (nI b) (nI k) v h K ↔ K (uI h 607 (9 + 6 * b + k) v) := by
  unfold wX10_puts
  simp (disch := omega) only [s.o, s.r1, s.a7, s.l7, nz7, nI_add, pk_mul, nI_clamp, nI_leI, nI_ltI, nI_eq, vp_in_nI, true_and, forall_eq]
theorem m_point (s : sM h) {b k : Nat} (hb : b < 8) (hk : k < 5) {K : Int32 → AH → Prop} : wX10_point 606 (nI b) (nI k) h K ↔ K (mI h 607 (81 + 5 * b + k)) h := by
  unfold wX10_point
  simp (disch := omega) only [s.o, s.r1, s.a7, s.l7, nI_add, pk_mul, nI_clamp, nI_leI, nI_ltI, nI_eq, vp_in_nI, true_and]
theorem m_train (s : sM h) {b k : Nat} (hb : b < 8) (hk : k < 19) {K : Int32 → AH → Prop} : wX10_train 606 (nI b) (nI k) h K ↔ K (mI h 607 (121 + 19 * b + k)) h := by
  unfold wX10_train
  simp (disch := omega) only [s.o, s.r1, s.a7, s.l7, nI_add, pk_mul, nI_clamp, nI_leI, nI_ltI, nI_eq, vp_in_nI, true_and]
theorem m_tells (s : sM h) {b k : Nat} {v : Int32} (hb : b < 8) (hk : k < 19) {K : AH → Prop} : wX10_tells 606 (nI b) (nI k) v h K ↔ K (uI h 607 (121 + 19 * b + k) v) := by
  unfold wX10_tells
  simp (disch := omega) only [s.o, s.r1, s.a7, s.l7, nz7, nI_add, pk_mul, nI_clamp, nI_leI, nI_ltI, nI_eq, vp_in_nI, true_and, forall_eq]
end MD
/-! what the model's numbers stand for -/
def bitE (m b : Nat) : Nat := if m.testBit b = true then 1 else 0
def sE (o : Option Nat) : Nat := match o with
  | none => 0
  | some e => e + 1
def lkE (G : LG) (b : Nat) : Nat := if b < gn G ∧ b ∉ gp G then sE (gf G b) else 0
def stE (G : LG) (b : Nat) : Nat := if b ∈ gp G then (gp G).idxOf b + 1 else 0
def toE (o : Option TG) : Nat := match o with
  | none => 0
  | some t => tn t + 1
def ocE (A : AG) (b : Nat) : Nat := toE ((aT A).find? (fun t => decide (tb t = b)))
def rsE (A : AG) (b : Nat) : Nat := toE ((aT A).find? (fun t => decide (b ∈ tr t)))
def lqE (A : AG) (o : Option Nat) : Nat := match o with
  | none => 0
  | some s => toE (lkr A s)
def lcE (A : AG) (p : Nat) : Nat := lqE A (gp (aL A))[p]?
def eH (f : Nat → Int32) (A : AG) : Prop := f 0 = nI (gn (aL A)) ∧ f 1 = nI (gp (aL A)).length ∧ f 2 = nI (gk (aL A)) ∧ f 3 = nI (aC A) ∧ f 4 = nI (aT A).length ∧ f 5 = nI (aQ A).length ∧ f 6 = nI (aM A) ∧ f 7 = nI (aO A) ∧ f 8 = nI (aD A)
def eB (f : Nat → Int32) (G : LG) : Prop := ∀ b, b < 12 → (b < gn G → f (9 + 6 * b + 0) = nI (gl G b)) ∧ f (9 + 6 * b + 1) = nI (bitE (gh G) b) ∧ f (9 + 6 * b + 2) = nI (lkE G b) ∧ f (9 + 6 * b + 3) = nI (stE G b)
def eP (f : Nat → Int32) (G : LG) : Prop := ∀ p, p < 8 → (∀ s, (gp G)[p]? = some s → f (81 + 5 * p + 0) = nI s ∧ f (81 + 5 * p + 1) = oI (gf G s) ∧ f (81 + 5 * p + 2) = oI (gr G s) ∧ f (81 + 5 * p + 3) = nI (bitE (gd G) s)) ∧ ((gp G).length ≤ p → f (81 + 5 * p + 3) = nI 0)
def eTr (f : Nat → Int32) (i : Nat) (t : TG) : Prop := f (121 + 19 * i + 0) = nI (tn t) ∧ f (121 + 19 * i + 1) = nI (tb t) ∧ f (121 + 19 * i + 2) = nI (td t) ∧ f (121 + 19 * i + 3) = nI (if tr t = [] then 0 else 1) ∧ (tr t ≠ [] → f (121 + 19 * i + 4) = nI (tu t)) ∧ f (121 + 19 * i + 5) = nI (tl t) ∧ f (121 + 19 * i + 6) = nI (if tr t = [] then 0 else (tr t).length + 1) ∧ (tr t ≠ [] → ∀ k c, (th_ t)[k]? = some c → f (121 + 19 * i + (7 + k)) = nI c)
def eT (f : Nat → Int32) (T : List TG) : Prop := ∀ i, i < 8 → (∀ t, T[i]? = some t → eTr f i t) ∧ (T.length ≤ i → f (121 + 19 * i + 3) = nI 0 ∧ f (121 + 19 * i + 5) = nI 0 ∧ f (121 + 19 * i + 6) = nI 0)
def eK (f : Nat → Int32) (A : AG) : Prop := (∀ b, b < 12 → f (9 + 6 * b + 4) = nI (ocE A b) ∧ f (9 + 6 * b + 5) = nI (rsE A b)) ∧ ∀ p, p < 8 → f (81 + 5 * p + 4) = nI (lcE A p)
def eQ (f : Nat → Int32) (Q : List Nat) : Prop := ∀ i q, Q[i]? = some q → f (273 + i) = nI q
/-- the array's numbers tell of the state -/
def rm (f : Nat → Int32) (A : AG) : Prop := eH f A ∧ eB f (aL A) ∧ eP f (aL A) ∧ eT f (aT A) ∧ eK f A ∧ eQ f (aQ A)
/-- what the model's proofs need of a state -/
def IMs (A : AG) : Prop := IL (aL A) ∧ (aT A).length ≤ 8 ∧ (aQ A).length ≤ 8 ∧ (∀ t ∈ aT A, tIn A t ∧ (th_ t).Nodup ∧ tn t < 9000) ∧ (aT A).Pairwise (fun t u => tn t < tn u ∧ ∀ b ∈ th_ t, b ∉ th_ u)
theorem toE_lt {o : Option TG} (h : ∀ t, o = some t → tn t < 9000) : toE o < 9001 := by
  cases o with
  | none => decide
  | some t => have := h t rfl; show tn t + 1 < 9001; omega
theorem toE_z (o : Option TG) : toE o = 0 ↔ o = none := by
  cases o <;> simp [toE]
section RM
variable {h g : AH} {A : AG} {f : Nat → Int32}
theorem IMs.tn (i : IMs A) {t : TG} (ht : t ∈ aT A) : tn t < 9000 := (i.2.2.2.1 t ht).2.2
theorem IMs.oc (i : IMs A) (b : Nat) : ocE A b < 9001 := toE_lt fun _ ht => i.tn (List.mem_of_find?_eq_some ht)
theorem IMs.rs (i : IMs A) (b : Nat) : rsE A b < 9001 := toE_lt fun _ ht => i.tn (List.mem_of_find?_eq_some ht)
theorem IMs.lc (i : IMs A) (p : Nat) : lcE A p < 9001 := by
  unfold lcE lqE
  cases (gp (aL A))[p]? with
  | none => exact (by decide : (0 : Nat) < 9001)
  | some s => exact toE_lt fun _ ht => i.tn (List.mem_of_find?_eq_some ht)
theorem fd_none {T : List TG} {P : TG → Prop} [DecidablePred P] : T.find? (fun t => decide (P t)) = none ↔ T.any (fun t => decide (P t)) = false := by
  rw [List.find?_eq_none, List.any_eq_false]
theorem oc_z {b : Nat} : ocE A b = 0 ↔ occ A b = false := by
  unfold ocE occ
  rw [toE_z]
  exact fd_none
theorem rs_z {b : Nat} : rsE A b = 0 ↔ resv A b = false := by
  unfold rsE resv
  rw [toE_z]
  exact fd_none
/-- two trains hold nothing in common -/
theorem pw_eq {T : List TG} (h : T.Pairwise (fun t u => tn t < tn u ∧ ∀ b ∈ th_ t, b ∉ th_ u)) {t u : TG} (ht : t ∈ T) (hu : u ∈ T) {b : Nat} (h1 : b ∈ th_ t) (h2 : b ∈ th_ u) : t = u := by
  induction T with
  | nil => cases ht
  | cons v T ih =>
    obtain ⟨p1, p2⟩ := List.pairwise_cons.mp h
    rcases List.mem_cons.mp ht with e1 | e1 <;> rcases List.mem_cons.mp hu with e2 | e2
    · rw [e1, e2]
    · exact absurd h2 ((p1 u e2).2 b (e1 ▸ h1))
    · exact absurd h1 ((p1 t e1).2 b (e2 ▸ h2))
    · exact ih p2 e1 e2
theorem occ_resv (i : IMs A) {b : Nat} (h : resv A b = true) : occ A b = false := by
  unfold resv at h
  rw [List.any_eq_true] at h
  obtain ⟨t, ht, hb⟩ := h
  have hb := of_decide_eq_true hb
  unfold occ
  rw [List.any_eq_false]
  intro u hu z
  have z := of_decide_eq_true z
  have e := pw_eq i.2.2.2.2 ht hu (List.mem_cons_of_mem _ hb) (show b ∈ th_ u by rw [← z]; exact List.mem_cons_self)
  subst e
  have := (i.2.2.2.1 t ht).2.1
  exact (List.nodup_cons.mp this).1 (z ▸ hb)
theorem m_look (s : sM h) (i : IMs A) (r : rm (mI h 607) A) {b : Nat} (hb : b < 12) {K : Int32 → AH → Prop} : wX10_look 606 (nI b) h K ↔ K (nI (stc A b)) h := by
  have e1 := (r.2.1 b hb).2.1
  have e2 := (r.2.2.2.2.1.1 b hb).1
  have e3 := (r.2.2.2.2.1.1 b hb).2
  have h2 := i.oc b
  have h3 := i.rs b
  unfold wX10_look
  simp (disch := omega) only [m_block s hb, s.o, e1, e2, e3, nI_leI, true_and]
  unfold stc bitE
  by_cases z1 : (gh (aL A)).testBit b = true
  · simp [z1]
  · simp only [z1]
    rw [if_neg (by simp), if_neg (by simp)]
    have n : ¬ nI 0 = nI 1 := by decide
    simp only [n, not_false_eq_true, true_implies, false_implies, and_true]
    simp only [Nat.le_zero, oc_z, rs_z]
    cases hr : resv A b
    · cases ho : occ A b <;> simp
    · have ho := occ_resv i hr
      rw [ho]
      simp
/-- the exits as the model has them -/
def xE (G : LG) (b k : Nat) : Option Nat := if k = 0 then gf G b else if b ∈ gp G then gr G b else none
theorem IL.p8 {G : LG} (i : IL G) {b : Nat} (hb : b ∈ gp G) : (gp G).idxOf b < 8 ∧ (gp G)[(gp G).idxOf b]? = some b := by
  have h1 := List.idxOf_lt_length_of_mem hb
  have h8 := i.2.2.2.2.1
  refine ⟨by omega, ?_⟩
  rw [List.getElem?_eq_getElem h1, List.getElem_idxOf]
theorem m_exit (s : sM h) (i : IL (aL A)) (r : rm (mI h 607) A) {b k : Nat} (hb : b < gn (aL A)) (hk : k < 2) {K : Int32 → AH → Prop} : wX10_exit 606 (nI b) (nI k) h K ↔ K (oI (xE (aL A) b k)) h := by
  have h12 := i.1
  have e1 := (r.2.1 b (by omega)).2.2.1
  have e2 := (r.2.1 b (by omega)).2.2.2
  unfold wX10_exit
  by_cases hp : b ∈ gp (aL A)
  · obtain ⟨p1, p2⟩ := i.p8 hp
    have e3 := (r.2.2.1 _ p1).1 b p2
    have h5 : stE (aL A) b = (gp (aL A)).idxOf b + 1 := if_pos hp
    rw [h5] at e2
    simp (disch := omega) only [m_block s (by omega : b < 12), s.o, e2, nI_leI, true_and, nI_sub, nI_add, Nat.add_sub_cancel, m_point s p1]
    rcases (by omega : k = 0 ∨ k = 1) with rfl | rfl
    · rw [e3.2.1]
      simp [xE]
    · rw [show 1 + 1 = 2 from rfl, e3.2.2.1]
      simp [xE, hp]
  · have h5 : stE (aL A) b = 0 := if_neg hp
    rw [h5] at e2
    have h6 : lkE (aL A) b = sE (gf (aL A) b) := if_pos ⟨hb, hp⟩
    rw [h6] at e1
    simp (disch := omega) only [m_block s (by omega : b < 12), s.o, e1, e2, nI_leI, true_and]
    rcases (by omega : k = 0 ∨ k = 1) with rfl | rfl
    · cases hf : gf (aL A) b with
      | none =>
        have : nI 0 - nI 1 = (-1 : Int32) := by decide
        simp [xE, hf, this, oI, sE]
      | some e =>
        simp only [sE]
        rw [nI_sub (by omega)]
        simp [xE, hf, oI]
    · have n : ¬ nI 1 = nI 0 := by decide
      simp [xE, hp, oI, n]
end RM
