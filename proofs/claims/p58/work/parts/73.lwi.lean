/-! WHAT IS KNOWN OF A BOX BETWEEN THE CALLS -/
section PRX
variable {T : List Nat} {s : Nat}
theorem mt_nwl : ∀ (F : List Nat) (i : Nat), (∀ c ∈ F, c ≠ 35 ∧ c ≠ 42) → (mtF T F i).2.1 = true → (mtF T F i).1 = i + F.length := by
  intro F
  induction F with
  | nil => intro i _ _; rfl
  | cons c F ih =>
    intro i h ho
    obtain ⟨h1, h2⟩ := h c List.mem_cons_self
    by_cases z : T[i]? = some c
    · rw [mt_eq h1 h2 z] at ho ⊢
      rw [ih (i + 1) (fun d hd => h d (List.mem_cons_of_mem _ hd)) ho, List.length_cons]
      omega
    · rw [mt_ne h1 h2 z] at ho
      cases ho
theorem prs_ok : ∀ (f s : Nat) {e : Nat} {cs : List CM}, prs T f s = (e, some cs) → (∀ (j k : Nat) (ns : List Nat), cs[j]? = some (k, ns) → k < 11 ∧ ns.length = wld (frm k)) ∧ s + 5 * cs.length ≤ T.length + 1 := by
  intro f
  induction f with
  | zero => intro s e cs h; cases h
  | succ f ih =>
    intro s e cs h
    rw [prs] at h
    cases hr : rd1 T s with
    | mk e' o =>
      cases o with
      | none => rw [hr] at h; cases h
      | some cm =>
        obtain ⟨k', ns'⟩ := cm
        obtain ⟨c1, c2, c3, c4⟩ := rd1_s hr
        rw [hr] at h
        simp only at h
        by_cases z : e' = T.length
        · rw [if_pos z] at h
          cases h
          refine ⟨fun j k ns hj => ?_, by rw [List.length_singleton]; omega⟩
          cases j with
          | zero =>
            rw [List.getElem?_cons_zero] at hj
            cases hj
            exact ⟨c1, c2⟩
          | succ j => simp at hj
        · rw [if_neg z] at h
          by_cases z2 : T[e']? = some 59
          · rw [if_pos z2] at h
            cases hp : prs T f (e' + 1) with
            | mk e3 o3 =>
              rw [hp] at h
              cases o3 with
              | none => cases h
              | some l =>
                cases h
                obtain ⟨i1, i2⟩ := ih (e' + 1) hp
                refine ⟨fun j k ns hj => ?_, by rw [List.length_cons]; omega⟩
                cases j with
                | zero =>
                  rw [List.getElem?_cons_zero] at hj
                  cases hj
                  exact ⟨c1, c2⟩
                | succ j =>
                  rw [List.getElem?_cons_succ] at hj
                  exact i1 j k ns hj
          · rw [if_neg z2] at h
            cases h
end PRX
section LWI
variable {h g g2 : AH} {A : AG} {X X' Y : BG} {w L : Nat} {S : Nat → Int32} {K : Int32 → AH → Prop}
/-- bounds of a box's records -/
def XB (X : BG) : Prop := bY X < 128 ∧ (∀ b, bB X = some b → b < 2 ^ 31) ∧ (∀ b, bE X = some b → b < 2 ^ 31) ∧ (∀ b, bX X = some b → b < 2 ^ 31) ∧ (bO X).length ≤ 80
theorem rt_12 (k : GK A) {t : TG} (h : tb t < gn (aL A) ∧ td t < gn (aL A)) : ∀ y ∈ rtT A t, y < 12 := by
  have h12 := k.1.1
  have xb := k.2.1.b h.2
  intro y hy
  cases hd : ds (aL A) (td t) (tb t) with
  | none =>
    have hne : tb t ≠ td t := fun z => by
      rw [z, xb.1] at hd
      cases hd
    have hr : rtT A t = [] := (rt_ne xb h.1 hne).mpr ((nx_none xb h.1 hne).mpr hd)
    rw [hr] at hy
    cases hy
  | some d =>
    have := (rt_all k.1 xb h.1 hd).2.2.1 y hy
    omega
theorem RBc.gk (r : RBc h X) (i : PX w X) : GK (bA X) := by
  obtain ⟨p, r⟩ := r
  exact r.2.2.1.gk i.1.1
theorem RBc.gkH (r : RBc h X) (i : PX w X) : ∀ B ∈ bH X, GK B := by
  obtain ⟨p, r⟩ := r
  intro B hB
  obtain ⟨j, hj⟩ := List.getElem?_of_mem hB
  exact (r.2.2.2.1.2.2.2.2 j B hj).gk (i.2.1 B hB).1
theorem RBc.gkS (r : RBc h X) (i : PX w X) : ∀ B, bS X = some B → GK B := by
  obtain ⟨p, r⟩ := r
  intro B hB
  have r5 := r.2.2.2.2.1
  unfold svO at r5
  rw [hB] at r5
  exact r5.2.gk (i.2.2 B hB).1
theorem RBc.bf (r : RBc h X) : (bF X).length ≤ 60 ∧ ∀ c ∈ bF X, c < 65536 := by
  obtain ⟨p, r⟩ := r
  obtain ⟨b1, b2, b3⟩ := r.2.2.2.2.2.1
  refine ⟨b2, fun c hc => ?_⟩
  obtain ⟨j, hj⟩ := List.getElem?_of_mem hc
  exact (b3 j c hj).2
theorem RBc.bo (r : RBc h X) : ∀ j, j < (bO X).length → ∃ c, c < 128 ∧ nI ((bO X).getD j 0) = nI c := by
  obtain ⟨p, r⟩ := r
  obtain ⟨q1, q2, q3, q4, q5, q6, q7, q8, q9⟩ := r.2.2.2.2.2.2.1
  intro j hj
  have hc : (bO X)[j]? = some ((bO X).getD j 0) := by
    rw [List.getD_eq_getElem?_getD, List.getElem?_eq_getElem hj]
    rfl
  obtain ⟨c, c1, c2⟩ := q9 j
  exact ⟨c, c1, by rw [← q8 j _ hc, c2]⟩
theorem PX.cg1 (i : PX w X) {r : RsA} (h1 : IP r.2.2) (h2 : BW (w + 1) r.2.2) : PX (w + 12) (cgd r X) := by
  have u := i.up (show w ≤ w + 12 by omega)
  refine ⟨⟨h1, h2.up (by omega)⟩, fun B hB => ?_, u.2.2⟩
  have hB : B ∈ (if r.1 = 0 then (bA X :: bH X).take 8 else bH X) := hB
  by_cases e : r.1 = 0
  · rw [if_pos e] at hB
    rcases List.mem_cons.mp (List.mem_of_mem_take hB) with rfl | hB
    · exact u.1
    · exact u.2.1 B hB
  · rw [if_neg e] at hB
    exact u.2.1 B hB
theorem PX.cg2 (i : PX w X) (gk : GK (bA X)) {x : Int32} : PX (w + 12) (cgS (bA X) x X) := by
  obtain ⟨a, b, c, d, e, f, g⟩ := rfd_s (bA X) x X
  refine PX.cg1 (X := (bA X, bH X, (rfd (bA X) x X).2.2)) ⟨i.1, i.2.1, fun B hB => i.2.2 B (by rw [← b]; exact hB)⟩ (gk_set gk x).2.2 (bw_set i.1.2 x)
theorem why_b (gk : GK A) {t : TG} (ht : t ∈ aT A) {b : Nat} (hb : (why A t).2 = some b) : b < 2 ^ 31 := by
  obtain ⟨k1, k2, -⟩ := gk.2.2.2.1 t ht
  unfold why at hb
  split at hb
  · cases hb
  · rename_i y hy
    cases hb
    have := rt_12 gk ⟨k1, k2⟩ b (List.mem_of_find?_eq_some hy)
    omega
theorem XB.rf2 (x : XB X) (gk : GK (bA X)) (v : Int32) : XB (rfd (bA X) v X) := by
  unfold rfd
  cases hf : fnd (bA X) v with
  | none => exact x
  | some t =>
    simp only
    split
    · exact ⟨(why_le _ _).1, fun b hb => why_b gk (fnd_mem hf).1 hb, x.2.2.1, x.2.2.2.1, x.2.2.2.2⟩
    · exact x
theorem XB.cg2 (x : XB X) (gk : GK (bA X)) (v : Int32) : XB (cgS (bA X) v X) := x.rf2 gk v
theorem rn_px : ∀ (l : List CM) (Y : BG) (j w : Nat), PX w Y → GK (bA Y) → XB Y → w + l.length ≤ 6200 → PX (w + l.length) (rnC Y l j).1 ∧ XB (rnC Y l j).1 ∧ bH (rnC Y l j).1 = bH Y ∧ ∀ i, (rnC Y l j).2 = some i → i < j + l.length := by
  intro l
  induction l with
  | nil => intro Y j w i _ x _; exact ⟨i, x, rfl, fun i hi => by cases hi⟩
  | cons c l ih =>
    intro Y j w i gk x hw
    rw [List.length_cons] at hw
    have px := i.ex gk (by omega) c
    have hx : XB (exX Y c) := by
      unfold exX
      by_cases e : c.1 = 4
      · rw [if_pos e]
        exact x.rf2 gk (cn c 0)
      · rw [if_neg e]
        exact x
    obtain ⟨e1, -⟩ := exX_s Y c
    rw [rnC]
    by_cases e : (exR (bA Y) c).1 = 0
    · rw [if_pos e]
      obtain ⟨h1, h2, h3, h4⟩ := ih (exX Y c) (j + 1) (w + 1) px (gk_exR gk i.1.2 (by omega) c) hx (by omega)
      rw [List.length_cons]
      exact ⟨h1.up (by omega), h2, h3.trans e1, fun i hi => by have := h4 i hi; omega⟩
    · rw [if_neg e]
      rw [List.length_cons]
      refine ⟨px.up (by omega), hx, e1, fun i hi => ?_⟩
      have hi : some j = some i := hi
      cases hi
      omega
theorem rd1_le {T : List Nat} {s : Nat} (hs : s ≤ T.length) : (rd1 T s).1 ≤ T.length := by
  unfold rd1
  cases hz : sel T s with
  | none => exact hs
  | some k =>
    simp only
    split
    · exact mt_in _ _ hs
    · split
      · rename_i z
        have h1 := mt_nwl (T := T) (frm 9) s (by decide) z.2.1
        have h2 := mt_in (T := T) (frm 9) s hs
        have h3 : (frm 9).length = 4 := rfl
        show s + 4 ≤ T.length
        omega
      · exact mt_in _ _ hs
theorem prs_le {T : List Nat} : ∀ (f s : Nat), s ≤ T.length → (prs T f s).1 ≤ T.length := by
  intro f
  induction f with
  | zero => intro s hs; exact hs
  | succ f ih =>
    intro s hs
    have h1 := rd1_le hs
    rw [prs]
    cases hr : rd1 T s with
    | mk e o =>
      rw [hr] at h1
      cases o with
      | none => exact h1
      | some c =>
        simp only
        split
        · exact h1
        · split
          · rename_i z
            have h2 := ih (e + 1) (List.getElem?_eq_some_iff.mp z).1
            cases hp : prs T f (e + 1) with
            | mk e2 o2 =>
              rw [hp] at h2
              cases o2 with
              | none => exact h2
              | some l => exact h2
          · exact h1
theorem run_px (i : PX w X) (gk : GK (bA X)) (x : XB X) (hw : w + 12 ≤ 6200) (hF : (bF X).length ≤ 60) : PX (w + 12) (runX X) ∧ XB (runX X) := by
  have u := i.up (show w ≤ w + 12 by omega)
  unfold runX
  cases hp : prs (bF X) 13 0 with
  | mk e o =>
    cases o with
    | none =>
      simp only
      have h1 := prs_le (T := bF X) 13 0 (Nat.zero_le _)
      rw [hp] at h1
      have h1 : e ≤ (bF X).length := h1
      exact ⟨u, x.1, x.2.1, fun b hb => by
        have hb : some e = some b := hb
        cases hb
        omega, x.2.2.2.1, x.2.2.2.2⟩
    | some cs =>
      simp only
      obtain ⟨-, hl5⟩ := prs_ok 13 0 hp
      obtain ⟨h1, h2, h3, h4⟩ := rn_px cs (bA X, bH X, bS X, bO X, [], X.2.2.2.2.2) 0 w i gk x (by omega)
      obtain ⟨f1, f2, f3, f4, f5⟩ := rn_fix cs (bA X, bH X, bS X, bO X, [], X.2.2.2.2.2) 0
      cases hz : rnC (bA X, bH X, bS X, bO X, [], X.2.2.2.2.2) cs 0 with
      | mk Z o2 =>
        rw [hz] at h1 h2 h3 h4 f1 f2 f3 f4 f5
        have p1 : PX (w + cs.length) Z := h1
        have p2 := p1.up (show w + cs.length ≤ w + 12 by omega)
        have p3 : XB Z := h2
        cases o2 with
        | none =>
          simp only
          refine ⟨⟨p2.1, fun B hB => ?_, p2.2.2⟩, p3⟩
          have hB : B ∈ (bA X :: bH X).take 8 := hB
          rcases List.mem_cons.mp (List.mem_of_mem_take hB) with rfl | hB
          · exact u.1
          · exact u.2.1 B hB
        | some j =>
          simp only
          refine ⟨u, p3.1, p3.2.1, x.2.2.1, fun b hb => ?_, x.2.2.2.2⟩
          have hb : some j = some b := hb
          cases hb
          have := h4 j rfl
          omega
theorem px_undo (i : PX w X) {B : AG} {H : List AG} (e : bH X = B :: H) : PX (w + 12) (B, H, X.2.2) := by
  have u := i.up (show w ≤ w + 12 by omega)
  exact ⟨u.2.1 B (by rw [e]; exact List.mem_cons_self), fun C hC => u.2.1 C (by rw [e]; exact List.mem_cons_of_mem _ hC), u.2.2⟩
theorem px_save (i : PX w X) : PX (w + 12) (bA X, bH X, some (bA X), X.2.2.2) := by
  have u := i.up (show w ≤ w + 12 by omega)
  exact ⟨u.1, u.2.1, fun B hB => by
    have hB : some (bA X) = some B := hB
    cases hB
    exact u.1⟩
theorem px_restore (i : PX w X) {B : AG} (e : bS X = some B) : PX (w + 12) (B, [], X.2.2) := by
  have u := i.up (show w ≤ w + 12 by omega)
  exact ⟨u.2.2 B e, fun C hC => absurd hC List.not_mem_nil, u.2.2⟩
theorem owB_l (gk : GK A) : (owB A).length ≤ 80 := by
  have h12 := gk.1.1
  have := fm_l (bch_l A) (gn (aL A))
  unfold owB
  omega
theorem GK.tr12 (k : GK A) {t : TG} (ht : t ∈ aT A) : (tr t).length ≤ 11 ∧ (∀ y ∈ tr t, y < gn (aL A)) := by
  obtain ⟨k1, k2, k3, k4, k5, k6, k7, k8, k9⟩ := k.2.2.2.1 t ht
  have h1 := nd12 k.1 k8 (fun y hy => by
    rcases List.mem_cons.mp hy with rfl | hy
    · exact k1
    · exact k5 y hy)
  unfold th_ at h1
  rw [List.length_cons] at h1
  exact ⟨by omega, k5⟩
theorem owT_l (gk : GK A) {t : TG} (ht : t ∈ aT A) : (owT t).length ≤ 80 := by
  have h12 := gk.1.1
  obtain ⟨hl, hm⟩ := gk.tr12 ht
  obtain ⟨k1, k2, -⟩ := gk.2.2.2.1 t ht
  have n4 := (nch_l (tn t)).1
  have n2 := nch_2 (c := tb t) (by omega)
  have n3 := nch_2 (c := td t) (by omega)
  have hlen : ∀ l : List Nat, (∀ y ∈ l, y < 12) → (l.flatMap (fun b => 62 :: nch b)).length ≤ 3 * l.length := by
    intro l
    induction l with
    | nil => intro _; exact Nat.le_refl 0
    | cons b l ih =>
      intro hb
      have h1 := ih (fun y hy => hb y (List.mem_cons_of_mem _ hy))
      have h2 := nch_2 (hb b List.mem_cons_self)
      rw [List.flatMap_cons, List.length_append, List.length_cons, List.length_cons]
      omega
  have h3 := hlen (tr t) (fun y hy => by have := hm y hy; omega)
  unfold owT
  split
  · simp only [List.length_append, List.length_singleton]
    omega
  · simp only [List.length_append, List.length_singleton]
    omega
end LWI
