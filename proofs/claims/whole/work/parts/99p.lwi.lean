/-! THE LAW: what holds between its calls -/
section LWI
variable {h g g2 : AH} {A : AG} {X X' Y : BG} {w L : Nat} {S : Nat → Int32} {K : Int32 → AH → Prop}
/-- all cells but the class's and the law's two are as they were; those two have their shapes -/
def lcl (h g : AH) : Prop := (∀ a, (a < 64 ∨ (606 ≤ a ∧ a < 619)) → sa h g a) ∧ mS g 619 = mS h 619 ∧ mS g 620 = mS h 620
theorem lcl.tr {k : AH} (c : lcl h g) (d : lcl g k) : lcl h k := ⟨fun a ha => (c.1 a ha).tr (d.1 a ha), d.2.1.trans c.2.1, d.2.2.trans c.2.2⟩
theorem fcl.lcl (f : fcl h g) : lcl h g := ⟨fun a ha => f.2 a (by omega), (f.2 619 (by omega)).1, (f.2 620 (by omega)).1⟩
theorem lcl.rf (h : AH) : lcl h h := (fcl.rf h).lcl
theorem lcl.ul {a j : Nat} {v : Int64} (ha : a = 619 ∨ a = 620) : lcl h (uL h a j v) := ⟨fun b hb => ⟨rfl, rfl, rfl, mL_o (by omega)⟩, rfl, rfl⟩
theorem RBc.ul (r : RBc h X) {a j : Nat} {v : Int64} (ha : a = 619 ∨ a = 620) : RBc (uL h a j v) X := by
  obtain ⟨p, r⟩ := r
  have hs := r.sR
  exact ⟨p, r.sm (Nat.le_refl _) (fun q hq => ⟨rfl, rfl, rfl, mL_o (by omega)⟩)⟩
theorem chi.sa (c : chi 606 619 h g) {a : Nat} (ha : a < 606 ∨ 619 ≤ a) : sa h g a := ⟨by rw [c.2.1], c.2.2.2.2 a ha, by rw [c.2.2.1], by rw [c.2.2.2.1]⟩
theorem RBc.mo (r : RBc h X) (c : chi 606 619 h g) : RBc g X := by
  obtain ⟨p, r⟩ := r
  have hs := r.sR
  exact ⟨p, r.sm (Nat.le_of_eq c.1.symm) (fun q hq => c.sa (by omega))⟩
theorem sM.lc (s : sM h) (c : lcl h g) : sM g := by
  have e : ∀ a, 606 ≤ a → a < 619 → sa h g a := fun a h1 h2 => c.1 a (Or.inr ⟨h1, h2⟩)
  unfold sM
  rw [(e 606 (by omega) (by omega)).1, (e 606 (by omega) (by omega)).2.2.1, (e 607 (by omega) (by omega)).1, (e 608 (by omega) (by omega)).1, (e 609 (by omega) (by omega)).1, (e 610 (by omega) (by omega)).1, (e 611 (by omega) (by omega)).1, (e 612 (by omega) (by omega)).1, (e 613 (by omega) (by omega)).1, (e 614 (by omega) (by omega)).1, (e 615 (by omega) (by omega)).1, (e 616 (by omega) (by omega)).1, (e 617 (by omega) (by omega)).1, (e 618 (by omega) (by omega)).1]
  exact s
theorem RMb.lc (q : RMb h X) (c : lcl h g) : RMb g X := by
  obtain ⟨s, q1, q2, q3, q4, q5, q6⟩ := q
  have e : ∀ a, 606 ≤ a → a < 619 → mI g a = mI h a := fun a h1 h2 => (c.1 a (Or.inr ⟨h1, h2⟩)).2.1
  refine ⟨s.lc c, by rw [e 607 (by omega) (by omega)]; exact q1, ?_, ?_, ?_, ?_, ?_⟩
  · unfold hsM; rw [e 606 (by omega) (by omega), e 610 (by omega) (by omega)]; exact q2
  · unfold svM at q3 ⊢; rw [e 606 (by omega) (by omega), e 609 (by omega) (by omega)]; exact q3
  · unfold bfM; rw [e 606 (by omega) (by omega), e 611 (by omega) (by omega)]; exact q4
  · unfold otM; rw [e 606 (by omega) (by omega), e 613 (by omega) (by omega)]; exact q5
  · unfold rcM; rw [e 606 (by omega) (by omega)]; exact q6
theorem strA.sm {a : Nat} {l : List Nat} (t : strA h a l) (e : ∀ b, b < 64 → sa h g b) (ha : a + 1 < 64) : strA g a l := by
  unfold strA
  rw [(e a (by omega)).1, (e a (by omega)).2.1, (e a (by omega)).2.2.1, (e (a + 1) ha).1, (e (a + 1) ha).2.1]
  exact t
theorem stW.sm (t : stW h) (e : ∀ b, b < 64 → sa h g b) : stW g := fun q hq => (t q hq).sm e (by have := (wds_ok q hq).1; omega)
/-- bounds of a box's records -/
def XB (X : BG) : Prop := bY X < 128 ∧ (∀ b, bB X = some b → b < 2 ^ 31) ∧ (∀ b, bE X = some b → b < 2 ^ 31) ∧ (∀ b, bX X = some b → b < 2 ^ 31) ∧ (bO X).length ≤ 80
/-- the start's cells, as they are throughout -/
def stA (S : Nat → Int32) (L : Nat) (h : AH) : Prop := stF h ∧ stD h ∧ stW h ∧ mS h 63 = (100, L) ∧ mI h 63 = S
theorem stA.sm (t : stA S L h) (e : ∀ b, b < 64 → sa h g b) : stA S L g := ⟨t.1.sm e, t.2.1.sm e, t.2.2.1.sm e, by rw [(e 63 (by omega)).1]; exact t.2.2.2.1, by rw [(e 63 (by omega)).2.1]; exact t.2.2.2.2⟩
/-- what holds between the law's calls -/
def LI (w : Nat) (X : BG) (S : Nat → Int32) (L : Nat) (h : AH) : Prop := RBc h X ∧ RMb h X ∧ PX w X ∧ XB X ∧ stA S L h ∧ mS h 619 = (101, 1) ∧ mS h 620 = (102, 1)
theorem RBc.gk (r : RBc h X) (i : PX w X) : GK (bA X) := by
  obtain ⟨p, r⟩ := r
  exact r.2.2.1.gk i.1.1
theorem RBc.gkH (r : RBc h X) (i : PX w X) : ∀ B ∈ bH X, GK B := by
  obtain ⟨p, r⟩ := r
  intro B hB
  obtain ⟨j, hj⟩ := List.getElem?_of_mem hB
  exact (r.2.2.2.1.2.2.2.2 j B hj).gk (i.2.1 B hB).1
theorem RBc.gkS (r : RBc h X) (i : PX w X) : ∀ B, bS X = some B → GK B := by
  obtain ⟨p, r⟩ := r
  intro B hB
  have r5 := r.2.2.2.2.1
  unfold svO at r5
  rw [hB] at r5
  exact r5.2.gk (i.2.2 B hB).1
theorem RBc.bf (r : RBc h X) : (bF X).length ≤ 60 ∧ ∀ c ∈ bF X, c < 65536 := by
  obtain ⟨p, r⟩ := r
  obtain ⟨b1, b2, b3⟩ := r.2.2.2.2.2.1
  refine ⟨b2, fun c hc => ?_⟩
  obtain ⟨j, hj⟩ := List.getElem?_of_mem hc
  exact (b3 j c hj).2
theorem RBc.bo (r : RBc h X) : ∀ j, j < (bO X).length → ∃ c, c < 128 ∧ nI ((bO X).getD j 0) = nI c := by
  obtain ⟨p, r⟩ := r
  obtain ⟨q1, q2, q3, q4, q5, q6, q7, q8, q9⟩ := r.2.2.2.2.2.2.1
  intro j hj
  have hc : (bO X)[j]? = some ((bO X).getD j 0) := by
    rw [List.getD_eq_getElem?_getD, List.getElem?_eq_getElem hj]
    rfl
  obtain ⟨c, c1, c2⟩ := q9 j
  exact ⟨c, c1, by rw [← q8 j _ hc, c2]⟩
theorem LI.next (I : LI w X S L h) (c : lcl h g) (r : RBc g X') (c2 : chi 606 619 g g2) (q2 : RMb g2 X') (px : PX (w + 12) X') (xb : XB X') : LI (w + 12) X' S L g2 := by
  obtain ⟨-, -, -, -, t, s1, s2⟩ := I
  exact ⟨r.mo c2, q2, px, xb, (t.sm (fun b hb => c.1 b (Or.inl hb))).sm (fun b hb => c2.sa (Or.inl (by omega))), by rw [c2.2.1, c.2.1]; exact s1, by rw [c2.2.1, c.2.2]; exact s2⟩
theorem PX.cg1 (i : PX w X) {r : RsA} (h1 : IP r.2.2) (h2 : BW (w + 1) r.2.2) : PX (w + 12) (cgd r X) := by
  have u := i.up (show w ≤ w + 12 by omega)
  refine ⟨⟨h1, h2.up (by omega)⟩, fun B hB => ?_, u.2.2⟩
  have hB : B ∈ (if r.1 = 0 then (bA X :: bH X).take 8 else bH X) := hB
  by_cases e : r.1 = 0
  · rw [if_pos e] at hB
    rcases List.mem_cons.mp (List.mem_of_mem_take hB) with rfl | hB
    · exact u.1
    · exact u.2.1 B hB
  · rw [if_neg e] at hB
    exact u.2.1 B hB
theorem PX.cg2 (i : PX w X) (gk : GK (bA X)) {x : Int32} : PX (w + 12) (cgS (bA X) x X) := by
  obtain ⟨a, b, c, d, e, f, g⟩ := rfd_s (bA X) x X
  refine PX.cg1 (X := (bA X, bH X, (rfd (bA X) x X).2.2)) ⟨i.1, i.2.1, fun B hB => i.2.2 B (by rw [← b]; exact hB)⟩ (gk_set gk x).2.2 (bw_set i.1.2 x)
theorem why_b (gk : GK A) {t : TG} (ht : t ∈ aT A) {b : Nat} (hb : (why A t).2 = some b) : b < 2 ^ 31 := by
  obtain ⟨k1, k2, -⟩ := gk.2.2.2.1 t ht
  unfold why at hb
  split at hb
  · cases hb
  · rename_i y hy
    cases hb
    have := rt_12 gk ⟨k1, k2⟩ b (List.mem_of_find?_eq_some hy)
    omega
theorem XB.rf2 (x : XB X) (gk : GK (bA X)) (v : Int32) : XB (rfd (bA X) v X) := by
  unfold rfd
  cases hf : fnd (bA X) v with
  | none => exact x
  | some t =>
    simp only
    split
    · exact ⟨(why_le _ _).1, fun b hb => why_b gk (fnd_mem hf).1 hb, x.2.2.1, x.2.2.2.1, x.2.2.2.2⟩
    · exact x
theorem XB.cg2 (x : XB X) (gk : GK (bA X)) (v : Int32) : XB (cgS (bA X) v X) := x.rf2 gk v
theorem rn_px : ∀ (l : List CM) (Y : BG) (j w : Nat), PX w Y → GK (bA Y) → XB Y → w + l.length ≤ 6200 → PX (w + l.length) (rnC Y l j).1 ∧ XB (rnC Y l j).1 ∧ bH (rnC Y l j).1 = bH Y ∧ ∀ i, (rnC Y l j).2 = some i → i < j + l.length := by
  intro l
  induction l with
  | nil => intro Y j w i _ x _; exact ⟨i, x, rfl, fun i hi => by cases hi⟩
  | cons c l ih =>
    intro Y j w i gk x hw
    rw [List.length_cons] at hw
    have px := i.ex gk (by omega) c
    have hx : XB (exX Y c) := by
      unfold exX
      by_cases e : c.1 = 4
      · rw [if_pos e]
        exact x.rf2 gk (cn c 0)
      · rw [if_neg e]
        exact x
    obtain ⟨e1, -⟩ := exX_s Y c
    rw [rnC]
    by_cases e : (exR (bA Y) c).1 = 0
    · rw [if_pos e]
      obtain ⟨h1, h2, h3, h4⟩ := ih (exX Y c) (j + 1) (w + 1) px (gk_exR gk i.1.2 (by omega) c) hx (by omega)
      rw [List.length_cons]
      exact ⟨h1.up (by omega), h2, h3.trans e1, fun i hi => by have := h4 i hi; omega⟩
    · rw [if_neg e]
      rw [List.length_cons]
      refine ⟨px.up (by omega), hx, e1, fun i hi => ?_⟩
      have hi : some j = some i := hi
      cases hi
      omega
theorem rd1_le {T : List Nat} {s : Nat} (hs : s ≤ T.length) : (rd1 T s).1 ≤ T.length := by
  unfold rd1
  cases hz : sel T s with
  | none => exact hs
  | some k =>
    simp only
    split
    · exact mt_in _ _ hs
    · split
      · rename_i z
        have h1 := mt_nwl (T := T) (frm 9) s (by decide) z.2.1
        have h2 := mt_in (T := T) (frm 9) s hs
        have h3 : (frm 9).length = 4 := rfl
        show s + 4 ≤ T.length
        omega
      · exact mt_in _ _ hs
theorem prs_le {T : List Nat} : ∀ (f s : Nat), s ≤ T.length → (prs T f s).1 ≤ T.length := by
  intro f
  induction f with
  | zero => intro s hs; exact hs
  | succ f ih =>
    intro s hs
    have h1 := rd1_le hs
    rw [prs]
    cases hr : rd1 T s with
    | mk e o =>
      rw [hr] at h1
      cases o with
      | none => exact h1
      | some c =>
        simp only
        split
        · exact h1
        · split
          · rename_i z
            have h2 := ih (e + 1) (List.getElem?_eq_some_iff.mp z).1
            cases hp : prs T f (e + 1) with
            | mk e2 o2 =>
              rw [hp] at h2
              cases o2 with
              | none => exact h2
              | some l => exact h2
          · exact h1
theorem run_px (i : PX w X) (gk : GK (bA X)) (x : XB X) (hw : w + 12 ≤ 6200) (hF : (bF X).length ≤ 60) : PX (w + 12) (runX X) ∧ XB (runX X) := by
  have u := i.up (show w ≤ w + 12 by omega)
  unfold runX
  cases hp : prs (bF X) 13 0 with
  | mk e o =>
    cases o with
    | none =>
      simp only
      have h1 := prs_le (T := bF X) 13 0 (Nat.zero_le _)
      rw [hp] at h1
      have h1 : e ≤ (bF X).length := h1
      exact ⟨u, x.1, x.2.1, fun b hb => by
        have hb : some e = some b := hb
        cases hb
        omega, x.2.2.2.1, x.2.2.2.2⟩
    | some cs =>
      simp only
      obtain ⟨-, hl5⟩ := prs_ok 13 0 hp
      obtain ⟨h1, h2, h3, h4⟩ := rn_px cs (bA X, bH X, bS X, bO X, [], X.2.2.2.2.2) 0 w i gk x (by omega)
      obtain ⟨f1, f2, f3, f4, f5⟩ := rn_fix cs (bA X, bH X, bS X, bO X, [], X.2.2.2.2.2) 0
      cases hz : rnC (bA X, bH X, bS X, bO X, [], X.2.2.2.2.2) cs 0 with
      | mk Z o2 =>
        rw [hz] at h1 h2 h3 h4 f1 f2 f3 f4 f5
        have p1 : PX (w + cs.length) Z := h1
        have p2 := p1.up (show w + cs.length ≤ w + 12 by omega)
        have p3 : XB Z := h2
        cases o2 with
        | none =>
          simp only
          refine ⟨⟨p2.1, fun B hB => ?_, p2.2.2⟩, p3⟩
          have hB : B ∈ (bA X :: bH X).take 8 := hB
          rcases List.mem_cons.mp (List.mem_of_mem_take hB) with rfl | hB
          · exact u.1
          · exact u.2.1 B hB
        | some j =>
          simp only
          refine ⟨u, p3.1, p3.2.1, x.2.2.1, fun b hb => ?_, x.2.2.2.2⟩
          have hb : some j = some b := hb
          cases hb
          have := h4 j rfl
          omega
theorem px_undo (i : PX w X) {B : AG} {H : List AG} (e : bH X = B :: H) : PX (w + 12) (B, H, X.2.2) := by
  have u := i.up (show w ≤ w + 12 by omega)
  exact ⟨u.2.1 B (by rw [e]; exact List.mem_cons_self), fun C hC => u.2.1 C (by rw [e]; exact List.mem_cons_of_mem _ hC), u.2.2⟩
theorem px_save (i : PX w X) : PX (w + 12) (bA X, bH X, some (bA X), X.2.2.2) := by
  have u := i.up (show w ≤ w + 12 by omega)
  exact ⟨u.1, u.2.1, fun B hB => by
    have hB : some (bA X) = some B := hB
    cases hB
    exact u.1⟩
theorem px_restore (i : PX w X) {B : AG} (e : bS X = some B) : PX (w + 12) (B, [], X.2.2) := by
  have u := i.up (show w ≤ w + 12 by omega)
  exact ⟨u.2.2 B e, fun C hC => absurd hC List.not_mem_nil, u.2.2⟩
theorem owB_l (gk : GK A) : (owB A).length ≤ 80 := by
  have h12 := gk.1.1
  have := fm_l (bch_l A) (gn (aL A))
  unfold owB
  omega
theorem owT_l (gk : GK A) {t : TG} (ht : t ∈ aT A) : (owT t).length ≤ 80 := by
  have h12 := gk.1.1
  obtain ⟨hl, hm⟩ := gk.tr12 ht
  obtain ⟨k1, k2, -⟩ := gk.2.2.2.1 t ht
  have n4 := (nch_l (tn t)).1
  have n2 := nch_2 (c := tb t) (by omega)
  have n3 := nch_2 (c := td t) (by omega)
  have hlen : ∀ l : List Nat, (∀ y ∈ l, y < 12) → (l.flatMap (fun b => 62 :: nch b)).length ≤ 3 * l.length := by
    intro l
    induction l with
    | nil => intro _; exact Nat.le_refl 0
    | cons b l ih =>
      intro hb
      have h1 := ih (fun y hy => hb y (List.mem_cons_of_mem _ hy))
      have h2 := nch_2 (hb b List.mem_cons_self)
      rw [List.flatMap_cons, List.length_append, List.length_cons, List.length_cons]
      omega
  have h3 := hlen (tr t) (fun y hy => by have := hm y hy; omega)
  unfold owT
  split
  · simp only [List.length_append, List.length_singleton]
    omega
  · simp only [List.length_append, List.length_singleton]
    omega
end LWI
