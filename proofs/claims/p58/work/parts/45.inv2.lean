/-! WHAT THE CALLS KEEP: points, trains, routes -/
section IV2
variable {A : AG} {G : LG}
theorem led_d {G' : LG} : ∀ (l : List Nat) (b : Nat), (∀ y ∈ (b :: l).dropLast, xo G' y = xo G y) → led G b l → led G' b l := by
  intro l
  induction l with
  | nil => intro b _ _; exact True.intro
  | cons c l ih => intro b h hl; exact ⟨(h b (show b ∈ b :: (c :: l).dropLast from List.mem_cons_self)).trans hl.1, ih c (fun y hy => h y (show y ∈ b :: (c :: l).dropLast from List.mem_cons_of_mem _ hy)) hl.2⟩
theorem nd_last {l : List Nat} {s : Nat} (h : l.Nodup) (hs : l.getLast? = some s) : s ∉ l.dropLast := by
  obtain ⟨ys, rfl⟩ := List.getLast?_eq_some_iff.mp hs
  rw [List.dropLast_concat]
  intro hm
  exact (List.nodup_append.mp h).2.2 s hm s (List.mem_singleton.mpr rfl) rfl
theorem xo_sd {s y : Nat} (h : y ≠ s) : xo (gSide G (gd G ^^^ 2 ^ s)) y = xo G y := by
  show (if (gd G ^^^ 2 ^ s).testBit y then gr G y else gf G y) = xo G y
  have h2 : ¬ s = y := fun z => h z.symm
  rw [Nat.testBit_xor, Nat.testBit_two_pow]
  simp [h2, xo]
theorem lkr_f {s : Nat} (h : lkr A s = none) {t : TG} (ht : t ∈ aT A) (hr : tr t ≠ []) (hs : s ≠ td t) : s ∉ th_ t := by
  unfold lkr at h
  intro hm
  exact List.find?_eq_none.mp h t ht (decide_eq_true ⟨hr, hs, hm⟩)
theorem ip_throw (i : IP A) (x : Int32) : IP (oThrow A x).2.2 := by
  unfold oThrow
  cases iv (gp (aL A)).length x with
  | none => exact i
  | some p =>
    simp only
    cases (gp (aL A))[p]? with
    | none => exact i
    | some s =>
      simp only
      by_cases e : (lkr A s).isSome = true
      · rw [if_pos e]; exact i
      · rw [if_neg e]
        have hn : lkr A s = none := by
          cases hz : lkr A s with
          | none => rfl
          | some t => rw [hz] at e; exact absurd rfl e
        refine ip_line i (G' := gSide (aL A) (gd (aL A) ^^^ 2 ^ s)) (Nat.le_refl _) (fun _ _ => rfl) (fun t ht z => ?_) (fun t ht b hb => (i.2.1 t ht).2.2.2.2.2.2.2.2 b hb)
        by_cases hr : tr t = []
        · rw [hr]; exact True.intro
        · refine led_d _ _ (fun y hy => xo_sd (fun hys => ?_)) z
          subst hys
          obtain ⟨k1, k2, k3, k4, k5, k6, k7, k8, k9⟩ := i.2.1 t ht
          by_cases hd : y = td t
          · have hlast : (tb t :: tr t).getLast? = some (td t) := by
              rw [List.getLast?_cons, (k7 hr).1]
              rfl
            exact nd_last k8 hlast (hd ▸ hy)
          · exact lkr_f hn ht hr hd ((List.dropLast_sublist _).mem hy)
theorem fre_f {b : Nat} (h : fre A b = true) {t : TG} (ht : t ∈ aT A) : b ∉ th_ t := by
  intro hm
  unfold fre at h
  simp only [Bool.and_eq_true, Bool.not_eq_true'] at h
  rcases List.mem_cons.mp hm with z | z
  · have h3 := h.2
    unfold occ at h3
    rw [List.any_eq_false] at h3
    exact h3 t ht (decide_eq_true z.symm)
  · exact resv_f h.1.2 ht z
theorem fre_s {b : Nat} (h : fre A b = true) : (gh (aL A)).testBit b = false := by
  unfold fre at h
  simp only [Bool.and_eq_true, Bool.not_eq_true'] at h
  exact h.1.1
theorem ip_train (i : IP A) (il : IL (aL A)) (x y : Int32) : IP (oTrain A x y).2.2 := by
  unfold oTrain
  cases h1 : iv (gn (aL A)) x with
  | none => exact i
  | some b =>
    cases h2 : iv (gn (aL A)) y with
    | none => exact i
    | some d =>
      simp only
      by_cases e1 : b = d
      · rw [if_pos e1]; exact i
      · rw [if_neg e1]
        by_cases e2 : (aT A).length = 8 ∨ fre A b = false
        · rw [if_pos e2]; exact i
        · rw [if_neg e2]
          have hb := (iv_some (by have := il.1; omega) h1).1
          have hd := (iv_some (by have := il.1; omega) h2).1
          have hf : fre A b = true := by
            cases hz : fre A b with
            | true => rfl
            | false => exact absurd (Or.inr hz) e2
          have hl : (aT A).length ≠ 8 := fun z => e2 (Or.inl z)
          obtain ⟨i1, i2, i3, i4, i5, i6, i7⟩ := i
          refine ⟨?_, ?_, ?_, ?_, ?_, ?_, ?_⟩
          · show (aT A ++ [_]).length ≤ 8
            rw [List.length_append, List.length_singleton]
            omega
          · intro t ht
            rcases List.mem_append.mp ht with ht | ht
            · obtain ⟨k1, k2, k3, k4, k5, k6, k7, k8, k9⟩ := i2 t ht
              exact ⟨k1, k2, k3, Nat.lt_succ_of_lt k4, k5, k6, k7, k8, k9⟩
            · rw [List.mem_singleton.mp ht]
              exact ⟨hb, hd, e1, Nat.lt_succ_self _, fun _ h => absurd h List.not_mem_nil, True.intro, fun z => absurd rfl z, List.nodup_cons.mpr ⟨List.not_mem_nil, List.nodup_nil⟩, fun _ h => absurd h List.not_mem_nil⟩
          · refine List.pairwise_append.mpr ⟨i3, List.pairwise_singleton _ _, fun t ht u hu => ?_⟩
            rw [List.mem_singleton.mp hu]
            refine ⟨(i2 t ht).2.2.2.1, fun c hc hcu => ?_⟩
            have : c = b := List.mem_singleton.mp hcu
            subst this
            exact fre_f hf ht hc
          · refine List.nodup_append.mpr ⟨i4, List.nodup_cons.mpr ⟨List.not_mem_nil, List.nodup_nil⟩, fun q hq c hc => ?_⟩
            rw [List.mem_singleton.mp hc]
            obtain ⟨t, ht, e, -⟩ := (i5 q).mp hq
            have := (i2 t ht).2.2.2.1
            omega
          · intro q
            show q ∈ aQ A ++ [aC A] ↔ ∃ t ∈ aT A ++ [(aC A, b, d, [], 0, 0)], tn t = q ∧ tr t = []
            constructor
            · intro hq
              rcases List.mem_append.mp hq with hq | hq
              · obtain ⟨t, ht, e⟩ := (i5 q).mp hq
                exact ⟨t, List.mem_append_left _ ht, e⟩
              · exact ⟨_, List.mem_append_right _ (List.mem_singleton.mpr rfl), (List.mem_singleton.mp hq).symm, rfl⟩
            · rintro ⟨t, ht, e, er⟩
              rcases List.mem_append.mp ht with ht | ht
              · exact List.mem_append_left _ ((i5 q).mpr ⟨t, ht, e, er⟩)
              · rw [List.mem_singleton.mp ht] at e
                exact List.mem_append_right _ (List.mem_singleton.mpr e.symm)
          · show (aT A ++ [_]).length + aO A = aC A + 1
            rw [List.length_append, List.length_singleton]
            omega
          · show ((aT A ++ [_]).map tl).sum ≤ aD A
            rw [List.map_append, List.sum_append]
            exact i7
theorem sum_up {t : TG} {f : TG → TG} : ∀ l : List TG, l.Pairwise (fun a b => tn a < tn b) → t ∈ l → ((l.map (fun u => if tn u = tn t then f u else u)).map tl).sum + tl t = (l.map tl).sum + tl (f t) := by
  intro l
  induction l with
  | nil => intro _ h; exact absurd h List.not_mem_nil
  | cons u l ih =>
    intro hp hm
    obtain ⟨hp1, hp2⟩ := List.pairwise_cons.mp hp
    simp only [List.map_cons, List.sum_cons]
    by_cases e : tn u = tn t
    · have hut : t = u := by
        rcases List.mem_cons.mp hm with z | z
        · exact z
        · have := hp1 t z
          omega
      subst hut
      have hr : l.map (fun u => if tn u = tn t then f u else u) = l := by
        conv => rhs; rw [← List.map_id l]
        refine List.map_congr_left (fun w hw => ?_)
        have := hp1 w hw
        rw [if_neg (by omega)]
        rfl
      rw [if_pos rfl, hr]
      omega
    · have hm2 : t ∈ l := by
        rcases List.mem_cons.mp hm with z | z
        · exact absurd (by rw [z]) e
        · exact z
      rw [if_neg e]
      have := ih hp2 hm2
      omega
theorem ip_up (i : IP A) {t v : TG} {f : TG → TG} {B : AG} (ht : t ∈ aT A) (hT : aT B = (aT A).map (fun u => if tn u = tn t then f u else u)) (hf : f t = v) (hn : tn v = tn t) (ho : ∀ u ∈ aT A, tn u ≠ tn t → tOk B u) (hv : tOk B v) (hd : ∀ u ∈ aT A, tn u ≠ tn t → ∀ b ∈ th_ v, b ∉ th_ u) (hq : (aQ B).Nodup) (hQ : ∀ q, q ∈ aQ B ↔ (q ≠ tn t ∧ q ∈ aQ A) ∨ (q = tn t ∧ tr v = [])) (hC : aC B = aC A) (hO : aO B = aO A) (hD : tl v + aD A ≤ tl t + aD B) : IP B := by
  have g : ∀ u ∈ aT A, (tn u = tn t ∧ (if tn u = tn t then f u else u) = v) ∨ (tn u ≠ tn t ∧ (if tn u = tn t then f u else u) = u) := fun u hu => by
    by_cases e : tn u = tn t
    · have := i.tu ht hu e
      subst this
      exact Or.inl ⟨rfl, by rw [if_pos rfl, hf]⟩
    · exact Or.inr ⟨e, by rw [if_neg e]⟩
  obtain ⟨i1, i2, i3, i4, i5, i6, i7⟩ := id i
  refine ⟨?_, ?_, ?_, hq, ?_, ?_, ?_⟩
  · rw [hT, List.length_map]; exact i1
  · intro w hw
    rw [hT] at hw
    obtain ⟨u, hu, e⟩ := List.mem_map.mp hw
    rcases g u hu with ⟨g1, g2⟩ | ⟨g1, g2⟩
    · rw [← e, g2]; exact hv
    · rw [← e, g2]; exact ho u hu g1
  · rw [hT]
    refine List.pairwise_map.mpr (List.pairwise_iff_getElem.mpr (fun j k hj hk hjk => ?_))
    obtain ⟨p1, p2⟩ := List.pairwise_iff_getElem.mp i3 j k hj hk hjk
    have m1 := List.getElem_mem hj
    have m2 := List.getElem_mem hk
    rcases g _ m1 with ⟨g1, g2⟩ | ⟨g1, g2⟩
    · rcases g _ m2 with ⟨g3, g4⟩ | ⟨g3, g4⟩
      · omega
      · rw [g2, g4]
        exact ⟨by omega, hd _ m2 g3⟩
    · rcases g _ m2 with ⟨g3, g4⟩ | ⟨g3, g4⟩
      · rw [g2, g4]
        exact ⟨by omega, fun b hb hb2 => hd _ m1 g1 b hb2 hb⟩
      · rw [g2, g4]
        exact ⟨p1, p2⟩
  · intro q
    rw [hQ, hT]
    constructor
    · rintro (⟨h1, h2⟩ | ⟨h1, h2⟩)
      · obtain ⟨u, hu, e, er⟩ := (i5 q).mp h2
        exact ⟨u, List.mem_map.mpr ⟨u, hu, by rw [if_neg (by omega)]⟩, e, er⟩
      · exact ⟨v, List.mem_map.mpr ⟨t, ht, by rw [if_pos rfl, hf]⟩, by omega, h2⟩
    · rintro ⟨w, hw, e, er⟩
      obtain ⟨u, hu, e2⟩ := List.mem_map.mp hw
      rcases g u hu with ⟨g1, g2⟩ | ⟨g1, g2⟩
      · rw [← e2, g2] at e er
        exact Or.inr ⟨by omega, er⟩
      · rw [← e2, g2] at e er
        exact Or.inl ⟨by omega, (i5 q).mpr ⟨u, hu, e, er⟩⟩
  · rw [hT, List.length_map, hO, hC]; exact i6
  · have := sum_up (f := f) (aT A) (i3.imp fun z => z.1) ht
    rw [hf] at this
    rw [hT]
    omega
theorem il_side (i : IL G) {m : Nat} (hm : ∀ b, m.testBit b = true → b ∈ gp G) : IL (gSide G m) := by
  obtain ⟨j1, j2, j3, j4, j5, j6, j7, j8, j9, j10⟩ := i
  exact ⟨j1, j2, j3, j4, j5, j6, j7, j8, hm, j10⟩
theorem il_t1 (i : IL G) {b c : Nat} (hb : b < gn G) : IL (turn1 G b c) := by
  have h9 := i.2.2.2.2.2.2.2.2.1
  have h7 := i.2.2.2.2.2.2.1
  unfold turn1
  by_cases e1 : gf G b = some c
  · rw [if_pos e1]
    refine il_side i (fun y hy => h9 y ?_)
    have hd := i.d12
    rw [clr_bit (by omega)] at hy
    simp only [Bool.and_eq_true] at hy
    exact hy.1
  · rw [if_neg e1]
    by_cases e2 : gr G b = some c
    · rw [if_pos e2]
      refine il_side i (fun y hy => ?_)
      rw [tb_or] at hy
      simp only [Bool.or_eq_true, decide_eq_true_eq] at hy
      rcases hy with hy | rfl
      · exact h9 y hy
      · exact h7 b hb (fun z => e1 (z.trans e2))
    · rw [if_neg e2]; exact i
theorem bx_t1 (x : BX G) {b c : Nat} : BX (turn1 G b c) := by
  unfold turn1
  by_cases e1 : gf G b = some c
  · rw [if_pos e1]; exact x
  · rw [if_neg e1]
    by_cases e2 : gr G b = some c
    · rw [if_pos e2]; exact x
    · rw [if_neg e2]; exact x
theorem il_tnr : ∀ (l : List Nat) (G : LG) (b : Nat), IL G → BX G → b < gn G → (∀ y ∈ l, y < gn G) → IL (tnr G b l) ∧ BX (tnr G b l) := by
  intro l
  induction l with
  | nil => intro G b i x _ _; exact ⟨i, x⟩
  | cons c l ih =>
    intro G b i x hb hl
    have e := (turn1_fix G b c).1
    exact ih (turn1 G b c) c (il_t1 i hb) (bx_t1 x) (by rw [e]; exact hl c List.mem_cons_self) (fun y hy => by rw [e]; exact hl y (List.mem_cons_of_mem _ hy))
/-- what is known of a state besides its cells -/
def GK (A : AG) : Prop := IL (aL A) ∧ BX (aL A) ∧ IP A
theorem rt_in (k : GK A) {t : TG} (ht : t ∈ aT A) (hc : can A t = true) : (∀ y ∈ rtT A t, y < gn (aL A)) ∧ (tb t :: rtT A t).Nodup ∧ rtT A t ≠ [] ∧ cx (aL A) (tb t) (rtT A t) ∧ (rtT A t).getLast? = some (td t) ∧ (∀ y ∈ rtT A t, fre A y = true) ∧ tr t = [] := by
  obtain ⟨k1, k2, -⟩ := k.2.2.2.1 t ht
  obtain ⟨h1, h2⟩ := can_nx hc
  obtain ⟨f1, f2, -, f4, f5, f6⟩ := rtF k.1 (k.2.1.b k2) k1 h2
  refine ⟨f1, f2, f4, f5, f6, ?_, h1⟩
  unfold can at hc
  simp only [Bool.and_eq_true] at hc
  exact List.all_eq_true.mp hc.2
theorem gk_setT (k : GK A) {t : TG} (ht : t ∈ aT A) (hc : can A t = true) {Q : List Nat} (hq : Q.Nodup) (hQ : ∀ q, q ∈ Q ↔ q ≠ tn t ∧ q ∈ aQ A) : GK (wQ (setT A t) Q) := by
  obtain ⟨f1, f2, f4, f5, f6, f7, f8⟩ := rt_in k ht hc
  obtain ⟨k1, k2, k3, k4, k5, k6, k7, k8, k9⟩ := k.2.2.2.1 t ht
  have h12 := k.1.1
  have hd := k.1.d12
  obtain ⟨n1, n2⟩ := il_tnr (rtT A t) (aL A) (tb t) k.1 k.2.1 k1 f1
  obtain ⟨x1, x2, x3, x4, x5, x6, x7, -⟩ := tnr_fix (rtT A t) (aL A) (tb t)
  have hdis : ∀ u ∈ aT A, tn u ≠ tn t → ∀ b ∈ tb t :: rtT A t, b ∉ th_ u := fun u hu hne b hb hbu => by
    rcases List.mem_cons.mp hb with rfl | hb
    · obtain ⟨j, hj, ej⟩ := List.getElem_of_mem hu
      obtain ⟨l, hl, el⟩ := List.getElem_of_mem ht
      have hp := List.pairwise_iff_getElem.mp k.2.2.2.2.1
      rcases Nat.lt_trichotomy j l with z | z | z
      · have := (hp j l hj hl z).2 (tb t) (by rw [ej]; exact hbu)
        rw [el] at this
        exact this List.mem_cons_self
      · subst z
        rw [ej] at el
        exact hne (by rw [el])
      · have := (hp l j hl hj z).2 (tb t) (by rw [el]; exact List.mem_cons_self)
        rw [ej] at this
        exact this hbu
    · exact fre_f (f7 b hb) hu hbu
  refine ⟨n1, n2, ip_up (B := wQ (setT A t) Q) k.2.2 ht rfl rfl rfl (fun u hu hne => ?_) ?_ (fun u hu hne => hdis u hu hne) hq (fun q => ?_) rfl rfl (Nat.le_refl _)⟩
  · obtain ⟨u1, u2, u3, u4, u5, u6, u7, u8, u9⟩ := k.2.2.2.1 u hu
    refine ⟨by show _ < gn (tnr _ _ _); rw [x1]; exact u1, by show _ < gn (tnr _ _ _); rw [x1]; exact u2, u3, u4, fun b hb => by show _ < gn (tnr _ _ _); rw [x1]; exact u5 b hb, ?_, fun z => ?_, u8, fun b hb => by show (gh (tnr _ _ _)).testBit b = false; rw [x7]; exact u9 b hb⟩
    · refine led_o _ _ (fun y hy => tnr_o _ _ _ y hd (by omega) (fun y hy => by have := f1 y hy; omega) (fun hy2 => hdis u hu hne y hy2 hy)) u6
    · obtain ⟨z1, z2, z3⟩ := u7 z
      refine ⟨z1, z2, ?_⟩
      show tu u ≤ aM A + gl (tnr (aL A) (tb t) (rtT A t)) ((tr u).headD 0)
      rw [x2]; exact z3
  · refine ⟨by show _ < gn (tnr _ _ _); rw [x1]; exact k1, by show _ < gn (tnr _ _ _); rw [x1]; exact k2, k3, k4, fun b hb => by show _ < gn (tnr _ _ _); rw [x1]; exact f1 b hb, ?_, fun z => ?_, f2, fun b hb => by show (gh (tnr _ _ _)).testBit b = false; rw [x7]; exact fre_s (f7 b hb)⟩
    · exact led_tnr _ _ _ hd (by omega) (fun y hy => by have := f1 y hy; omega) f2 f5
    · refine ⟨f6, ?_, ?_⟩
      · show aM A < aM A + gl (aL A) ((rtT A t).headD 0)
        have hh : (rtT A t).headD 0 < gn (aL A) := by
          cases hr : rtT A t with
          | nil => exact absurd hr f4
          | cons c l => exact f1 c (by rw [hr]; exact List.mem_cons_self)
        have := (k.1.2.1 _ hh).1
        omega
      · show aM A + gl (aL A) ((rtT A t).headD 0) ≤ aM A + gl (tnr (aL A) (tb t) (rtT A t)) ((rtT A t).headD 0)
        rw [x2]
        exact Nat.le_refl _
  · show q ∈ Q ↔ _
    rw [hQ]
    constructor
    · exact fun z => Or.inl z
    · rintro (z | ⟨-, z⟩)
      · exact z
      · exact absurd z f4
theorem ip_free (i : IP A) (x : Int32) : IP (oFree A x).2.2 := by
  unfold oFree
  cases hf : fnd A x with
  | none => exact i
  | some t =>
    simp only
    by_cases e : tr t = []
    · rw [if_pos e]; exact i
    · rw [if_neg e]
      have ht := (fnd_mem hf).1
      obtain ⟨k1, k2, k3, k4, k5, k6, k7, k8, k9⟩ := i.2.1 t ht
      have hnq : tn t ∉ aQ A := fun z => by
        obtain ⟨u, hu, e1, e2⟩ := (i.2.2.2.2.1 _).mp z
        have := i.tu ht hu e1
        subst this
        exact e e2
      refine ip_up (B := wQ (upT A (tn t) (fun u => (tn u, tb u, td u, [], tu u, tl u))) (aQ A ++ [tn t])) i ht rfl rfl rfl (fun u hu _ => i.2.1 u hu) ⟨k1, k2, k3, k4, fun _ h => absurd h List.not_mem_nil, True.intro, fun z => absurd rfl z, List.nodup_cons.mpr ⟨List.not_mem_nil, List.nodup_nil⟩, fun _ h => absurd h List.not_mem_nil⟩ (fun u hu hne b hb hbu => ?_) ?_ (fun q => ?_) rfl rfl (Nat.le_refl _)
      · have hb : b = tb t := List.mem_singleton.mp hb
        obtain ⟨j, hj, ej⟩ := List.getElem_of_mem hu
        obtain ⟨l, hl, el⟩ := List.getElem_of_mem ht
        have hp := List.pairwise_iff_getElem.mp i.2.2.1
        rcases Nat.lt_trichotomy j l with z | z | z
        · have := (hp j l hj hl z).2 b (by rw [ej]; exact hbu)
          rw [el, hb] at this
          exact this List.mem_cons_self
        · subst z
          rw [ej] at el
          exact hne (by rw [el])
        · have := (hp l j hl hj z).2 b (by rw [el, hb]; exact List.mem_cons_self)
          rw [ej] at this
          exact this hbu
      · refine List.nodup_append.mpr ⟨i.2.2.2.1, List.nodup_cons.mpr ⟨List.not_mem_nil, List.nodup_nil⟩, fun q hq c hc z => ?_⟩
        rw [z, List.mem_singleton.mp hc] at hq
        exact hnq hq
      · show q ∈ aQ A ++ [tn t] ↔ (q ≠ tn t ∧ q ∈ aQ A) ∨ (q = tn t ∧ ([] : List Nat) = [])
        rw [List.mem_append, List.mem_singleton]
        constructor
        · rintro (z | z)
          · exact Or.inl ⟨fun y => hnq (y ▸ z), z⟩
          · exact Or.inr ⟨z, rfl⟩
        · rintro (⟨-, z⟩ | ⟨z, -⟩)
          · exact Or.inl z
          · exact Or.inr z
theorem gk_set (k : GK A) (x : Int32) : GK (oSet A x).2.2 := by
  unfold oSet
  cases hf : fnd A x with
  | none => exact k
  | some t =>
    simp only
    by_cases e1 : tr t ≠ []
    · rw [if_pos e1]; exact k
    · rw [if_neg e1]
      by_cases e2 : can A t = true
      · rw [if_pos e2]
        refine gk_setT k (fnd_mem hf).1 e2 (k.2.2.2.2.2.1.filter _) (fun q => ?_)
        rw [List.mem_filter, decide_eq_true_eq]
        exact And.comm
      · rw [if_neg e2]; exact k
end IV2
