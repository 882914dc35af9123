/-! THE MODEL'S MINUTE: all trains -/
def stM (A : AG) (T : List TG) (o : Nat) : AG := (aL A, T, aQ A, aC A, o, aM A + 1, aD A)
section MN
variable {h g : AH} {A : AG} {o : Nat} {pre post : List TG} {t t' : TG}
theorem pw_rep (h : (pre ++ t :: post).Pairwise (fun t u => tn t < tn u ∧ ∀ b ∈ th_ t, b ∉ th_ u)) (hn : tn t' = tn t) (ht : ∀ b ∈ th_ t', b ∈ th_ t) : (pre ++ t' :: post).Pairwise (fun t u => tn t < tn u ∧ ∀ b ∈ th_ t, b ∉ th_ u) := by
  obtain ⟨p1, p2, p3⟩ := List.pairwise_append.mp h
  obtain ⟨p4, p5⟩ := List.pairwise_cons.mp p2
  refine List.pairwise_append.mpr ⟨p1, List.pairwise_cons.mpr ⟨fun u hu => ⟨by rw [hn]; exact (p4 u hu).1, fun b hb => (p4 u hu).2 b (ht b hb)⟩, p5⟩, fun u hu v hv => ?_⟩
  rcases List.mem_cons.mp hv with rfl | hv
  · have := p3 u hu t List.mem_cons_self
    exact ⟨by rw [hn]; exact this.1, fun b hb z => this.2 b hb (ht b z)⟩
  · exact p3 u hu v (List.mem_cons_of_mem _ hv)
theorem pw_del (h : (pre ++ t :: post).Pairwise (fun t u => tn t < tn u ∧ ∀ b ∈ th_ t, b ∉ th_ u)) : (pre ++ post).Pairwise (fun t u => tn t < tn u ∧ ∀ b ∈ th_ t, b ∉ th_ u) :=
  h.sublist (List.Sublist.append_left (List.sublist_cons_self t post) pre)
theorem IMm.del {o' : Nat} (i : IMm (stM A (pre ++ t :: post) o)) : IMm (stM A (pre ++ post) o') := by
  obtain ⟨⟨i1, i2, i3, i4, i5⟩, im⟩ := i
  have sub : ∀ u ∈ pre ++ post, u ∈ pre ++ t :: post := fun u hu => by
    rcases List.mem_append.mp hu with hu | hu
    · exact List.mem_append_left _ hu
    · exact List.mem_append_right _ (List.mem_cons_of_mem _ hu)
  have i2' : (pre ++ t :: post).length ≤ 8 := i2
  refine ⟨⟨i1, ?_, i3, fun u hu => i4 u (sub u hu), pw_del i5⟩, fun u hu => im u (sub u hu)⟩
  show (pre ++ post).length ≤ 8
  simp at i2' ⊢
  omega
theorem IMm.rep (i : IMm (stM A (pre ++ t :: post) o)) (hn : tn t' = tn t) (hd : td t' = td t) (ht : ∀ b ∈ th_ t', b ∈ th_ t) (hnd : (th_ t').Nodup) (h1 : tb t' ≠ td t') (h2 : tr t' ≠ [] → (tr t').getLast? = some (td t')) : IMm (stM A (pre ++ t' :: post) o) := by
  obtain ⟨⟨i1, i2, i3, i4, i5⟩, im⟩ := i
  have tm_ : t ∈ pre ++ t :: post := by simp
  have mem : ∀ u ∈ pre ++ t' :: post, u = t' ∨ u ∈ pre ++ t :: post := fun u hu => by
    rcases List.mem_append.mp hu with hu | hu
    · exact Or.inr (List.mem_append_left _ hu)
    · rcases List.mem_cons.mp hu with rfl | hu
      · exact Or.inl rfl
      · exact Or.inr (List.mem_append_right _ (List.mem_cons_of_mem _ hu))
  have i2' : (pre ++ t :: post).length ≤ 8 := i2
  obtain ⟨⟨a1, a2, a3⟩, a4, a5⟩ := i4 t tm_
  have thn : ∀ b ∈ th_ t, b < gn (aL A) := fun b hb => by
    rcases List.mem_cons.mp hb with rfl | hb
    · exact a1
    · exact a3 b hb
  refine ⟨⟨i1, ?_, i3, fun u hu => ?_, pw_rep i5 hn ht⟩, fun u hu => ?_⟩
  · show (pre ++ t' :: post).length ≤ 8
    simp at i2' ⊢
    omega
  · rcases mem u hu with rfl | hu
    · exact ⟨⟨thn _ (ht _ List.mem_cons_self), by rw [hd]; exact a2, fun b hb => thn b (ht b (List.mem_cons_of_mem _ hb))⟩, hnd, by rw [hn]; exact a5⟩
    · exact i4 u hu
  · rcases mem u hu with rfl | hu
    · exact ⟨h1, h2⟩
    · exact im u hu
theorem GK.imm (k : GK A) (hC : aC A ≤ 9000) : IMm A := ⟨k.ims hC, fun t ht => ⟨(k.2.2.2.1 t ht).2.2.1, fun z => ((k.2.2.2.1 t ht).2.2.2.2.2.2.1 z).1⟩⟩
theorem m_L13 (k : GK A) (hC : aC A ≤ 9000) (hM : aM A < 2 ^ 29) (s : sM h) {X : AH → Prop} {c : Nat → AH → Prop} (kk : ∀ g, mf [607] [] h g → rm (mI g 607) (mnt A) → c 606 g) : ∀ (post pre : List TG) (o : Nat) (g : AH), mf [607] [] h g → rm (mI g 607) (stM A (pre ++ post) o) → IMm (stM A (pre ++ post) o) → (∀ t ∈ post, t ∈ aT A) → pre ++ (post.map (ent (aL A) (aM A + 1))).filter (fun t => decide (tb t ≠ td t)) = aT (mnt A) → o + (post.map (ent (aL A) (aM A + 1))).countP (fun t => decide (tb t = td t)) = aO (mnt A) → o + post.length ≤ 9000 → wX10_oneMinute_L13 X c (post.length + 1) 606 (nI pre.length) g := by
  intro post
  induction post with
  | nil =>
    intro pre o g cg r i hp e1 e2 ho
    have s' := cg.s s
    have e4 := r.1.2.2.2.2.1
    have h8 := i.1.2.1
    have hl : (aT (stM A (pre ++ []) o)).length = pre.length := by show (pre ++ []).length = _; simp
    rw [hl] at e4 h8
    rw [List.length_nil, wX10_oneMinute_L13]; dsimp only
    simp (disch := omega) only [s'.o, s'.r1, s'.a7, s'.l7, nz7, nI_add, pk_mul, nI_clamp, nI_leI, nI_ltI, nI_eq, vp_in_nI, true_and, e4]
    refine ⟨fun _ => kk g cg ?_, fun z => absurd (Nat.le_refl _) z⟩
    have e : stM A (pre ++ []) o = mnt A := by
      have a1 : pre ++ [] = aT (mnt A) := e1
      have a2 : o = aO (mnt A) := e2
      rw [a1, a2]; rfl
    rw [← e]; exact r
  | cons t post ih =>
    intro pre o g cg r i hp e1 e2 ho
    have s' := cg.s s
    have e4 := r.1.2.2.2.2.1
    have e6 : mI g 607 6 = nI (aM A + 1) := r.1.2.2.2.2.2.2.1
    have e7 : mI g 607 7 = nI o := r.1.2.2.2.2.2.2.2.1
    have h8 := i.1.2.1
    have hT : aT (stM A (pre ++ t :: post) o) = pre ++ t :: post := rfl
    have hl : (aT (stM A (pre ++ t :: post) o)).length = pre.length + (post.length + 1) := by rw [hT]; simp
    have ht : (aT (stM A (pre ++ t :: post) o))[pre.length]? = some t := by rw [hT, List.getElem?_append_right (Nat.le_refl _), Nat.sub_self]; rfl
    rw [hl] at e4 h8
    have tA := hp t List.mem_cons_self
    have hp' : ∀ u ∈ post, u ∈ aT A := fun u hu => hp u (List.mem_cons_of_mem _ hu)
    have tk := k.2.2.2.1 t tA
    have et := r.t (show pre.length < 8 by omega) ht
    have step : ent (aL A) (aM A + 1) t = t → wX10_oneMinute_L13 X c (post.length + 1) 606 (nI (pre.length + 1)) g := fun he => by
      have hne : tb t ≠ td t := tk.2.2.1
      rw [List.map_cons, he, List.filter_cons, if_pos (decide_eq_true hne)] at e1
      rw [List.map_cons, he, List.countP_cons, if_neg (by simp [hne])] at e2
      have := ih (pre ++ [t]) o g cg (by rw [List.append_assoc]; exact r) (by rw [List.append_assoc]; exact i) hp' (by rw [List.append_assoc]; exact e1) e2 (by simp at ho; omega)
      rw [List.length_append] at this
      exact this
    rw [List.length_cons, wX10_oneMinute_L13]; dsimp only
    simp (disch := omega) only [s'.o, s'.r1, s'.a7, s'.l7, nz7, nI_add, pk_mul, nI_clamp, nI_leI, nI_ltI, nI_eq, vp_in_nI, true_and, e4, m_train s' (show pre.length < 8 by omega), et.2.2.2.1]
    refine ⟨fun z => absurd z (by omega), fun _ => ?_⟩
    by_cases hr : tr t = []
    · rw [if_pos hr]
      exact ⟨fun _ => step (by unfold ent; rw [hr]), fun z => absurd z (by decide)⟩
    rw [if_neg hr]
    refine ⟨fun z => absurd rfl z, fun _ => ?_⟩
    rw [et.2.2.2.2.1 hr]
    have hdue := (tk.2.2.2.2.2.2.1 hr).2.2
    have hg9 : gl (aL A) ((tr t).headD 0) ≤ 9 := by
      cases hz : tr t with
      | nil => exact absurd hz hr
      | cons a l => exact (k.1.2.1 a (tk.2.2.2.2.1 a (by rw [hz]; exact List.mem_cons_self))).2
    simp (disch := omega) only [s'.o, s'.r1, s'.a7, s'.l7, nz7, nI_add, pk_mul, nI_clamp, nI_leI, nI_ltI, nI_eq, vp_in_nI, true_and, e6]
    refine ⟨fun z => step ?_, fun z => ?_⟩
    · unfold ent
      cases hz : tr t with
      | nil => rfl
      | cons a l => simp only; rw [if_neg z]
    refine m_enters i (show aM A + 1 < 2 ^ 30 by omega) s' r ht hr (fun c' e l hcl g2 c2 u2 => ?_) (fun hcl g2 c2 o2 z1 z2 z3 => ?_)
    · have he : ent (aL A) (aM A + 1) t = (tn t, c', td t, e :: l, aM A + 1 + gl (aL A) e, tl t) := by
        unfold ent; rw [hcl]; simp only
        rw [if_pos z]
      have hlast := ((tk.2.2.2.2.2.2.1 hr).1)
      have nd := tk.2.2.2.2.2.2.2.1
      have hth : th_ t = tb t :: c' :: e :: l := by unfold th_; rw [hcl]
      rw [hth] at nd
      rw [hcl, List.getLast?_cons_cons] at hlast
      have hcd : c' ≠ td t := fun z => by
        have := List.mem_of_getLast? hlast
        rw [← z] at this
        exact (List.nodup_cons.mp (List.nodup_cons.mp nd).2).1 this
      have r2 := enter_rm i r hT hcl u2
      refine ⟨fun _ => ?_, fun z => absurd rfl z⟩
      have hd9 : tb ((tn t, c', td t, e :: l, aM A + 1 + gl (aL A) e, tl t) : TG) ≠ td ((tn t, c', td t, e :: l, aM A + 1 + gl (aL A) e, tl t) : TG) := hcd
      rw [List.map_cons, he, List.filter_cons, if_pos (decide_eq_true hd9)] at e1
      rw [List.map_cons, he, List.countP_cons, if_neg (by simpa using hd9)] at e2
      have i2 : IMm (stM A (pre ++ ((tn t, c', td t, e :: l, aM A + 1 + gl (aL A) e, tl t) : TG) :: post) o) := i.rep rfl rfl (fun b hb => by rw [hth]; exact List.mem_cons_of_mem _ hb) (List.nodup_cons.mp nd).2 hcd (fun _ => hlast)
      have := ih (pre ++ [(tn t, c', td t, e :: l, aM A + 1 + gl (aL A) e, tl t)]) o g2 (cg.tr c2) (by rw [List.append_assoc]; exact r2) (by rw [List.append_assoc]; exact i2) hp' (by rw [List.append_assoc]; exact e1) e2 (by simp at ho; omega)
      rw [List.length_append] at this
      exact this
    · have he : ent (aL A) (aM A + 1) t = (tn t, td t, td t, [], tu t, tl t) := by
        unfold ent; rw [hcl]; simp only
        rw [if_pos z]
      refine ⟨fun z => absurd z (by decide), fun _ => ⟨(c2.s s').o, ?_⟩⟩
      have b12 : tb t < 12 ∧ td t < 12 := by
        have := k.1.1
        exact ⟨by have := tk.1; omega, by have := tk.2.1; omega⟩
      have p8 : ∀ p y, (gp (aL A))[p]? = some y → p < 8 := fun p y hp => Nat.lt_of_lt_of_le (List.getElem?_eq_some_iff.mp hp).1 k.1.2.2.2.2.1
      have lo : ∀ q, (q < 9 ∨ 121 ≤ q) → mI g2 607 q = mI g 607 q := fun q hq => o2 q (by omega) (by omega) (fun p hp => by have := p8 p _ hp; omega)
      refine m_leaves (n := pre.length + (post.length + 1)) (m := o) (c2.s s') (by omega) (by omega) (by omega) ((lo 4 (by omega)).trans e4) ((lo 7 (by omega)).trans e7) (fun g3 c3 u3 => ?_)
      obtain ⟨v0, v4, v7, va, vb, vc, vd⟩ := u3
      have r3 : rm (mI g3 607) (stM A (pre ++ post) (o + 1)) := by
        refine leave_rm i r hT hcl ⟨fun q a0 a1 a2 a3 a4 a5 a6 => ?_, by rw [hl]; exact v4, v7, ?_, ?_, fun p hp => ?_, fun i' k' hk hi => ?_, fun i' k' hk h1 h2 => ?_, fun k' hk => ?_, fun i' k' hk h1 h2 => ?_⟩
        · rw [v0 q a1 a2 a3]; exact o2 q a4 a5 a6
        · rw [v0 _ (by omega) (by omega) (by omega)]; exact z1
        · rw [v0 _ (by omega) (by omega) (by omega)]; exact z2
        · have := p8 p _ hp
          rw [v0 _ (by omega) (by omega) (by omega)]; exact z3 p hp
        · rw [va i' k' hk hi]; exact lo _ (by omega)
        · rw [hl] at h2
          rw [vb i' k' hk h1 h2]; exact lo _ (by omega)
        · rw [hl]; exact vc k' hk
        · rw [hl] at h1
          rw [vd i' k' hk h1 h2]; exact lo _ (by omega)
      have dt : ¬ (td t ≠ td t) := fun z => z rfl
      rw [List.map_cons, he, List.filter_cons, if_neg (by simp [tb, td])] at e1
      rw [List.map_cons, he, List.countP_cons, if_pos (by simp [tb, td])] at e2
      exact ih pre (o + 1) g3 (cg.tr (c2.tr c3)) r3 i.del hp' e1 (by omega) (by simp at ho; omega)
end MN
