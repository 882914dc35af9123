/-! THE WHOLE BOX'S ANSWERS FIT TOGETHER -/
section WHO
variable {h g h0 : AH} {X : BG} {A : AG} {w L : Nat} {K : Int32 → AH → Prop}
/-- the first m trains are those with numbers below x -/
def pre (T : List TG) (m x : Nat) : Prop := m ≤ T.length ∧ (∀ i t, T[i]? = some t → (i < m ↔ tn t < x))
theorem pre_0 (T : List TG) : pre T 0 0 := ⟨Nat.zero_le _, fun i t _ => by omega⟩
theorem pre_no {T : List TG} {m x : Nat} (p : pre T m x) (hn : ∀ t ∈ T, tn t ≠ x) : pre T m (x + 1) := ⟨p.1, fun i t ht => by
  have h1 := p.2 i t ht
  have h2 := hn t (List.mem_of_getElem? ht)
  omega⟩
theorem pw_lt {T : List TG} (pw : T.Pairwise (fun t u => tn t < tn u ∧ ∀ b ∈ th_ t, b ∉ th_ u)) {i j : Nat} {t u : TG} (ht : T[i]? = some t) (hu : T[j]? = some u) (hij : i < j) : tn t < tn u := by
  obtain ⟨h1, e1⟩ := List.getElem?_eq_some_iff.mp ht
  obtain ⟨h2, e2⟩ := List.getElem?_eq_some_iff.mp hu
  have := (List.pairwise_iff_getElem.mp pw i j h1 h2 hij).1
  rw [e1, e2] at this
  exact this
theorem pre_at {T : List TG} (pw : T.Pairwise (fun t u => tn t < tn u ∧ ∀ b ∈ th_ t, b ∉ th_ u)) {m x : Nat} (p : pre T m x) {u : TG} (hu : u ∈ T) (e : tn u = x) : T[m]? = some u ∧ pre T (m + 1) (x + 1) := by
  obtain ⟨i, hi⟩ := List.getElem?_of_mem hu
  have hil := (List.getElem?_eq_some_iff.mp hi).1
  have h1 := p.2 i u hi
  have him : ¬ i < m := fun z => by have := h1.mp z; omega
  have e1 : i = m := by
    by_cases z : i = m
    · exact z
    · have hml : m < T.length := by omega
      have h2 := List.getElem?_eq_getElem hml
      have h3 := pw_lt pw h2 hi (by omega)
      have h4 := p.2 m _ h2
      omega
  subst e1
  refine ⟨hi, by omega, fun j t ht => ?_⟩
  have h3 := p.2 j t ht
  by_cases z1 : j < i
  · omega
  · by_cases z2 : j = i
    · subst z2
      rw [hi] at ht
      cases ht
      omega
    · have := pw_lt pw hi ht (by omega)
      omega
theorem pre_all {T : List TG} {m x : Nat} (p : pre T m x) (hx : ∀ t ∈ T, tn t < x) : m = T.length := by
  by_cases z : m = T.length
  · exact z
  · have hml : m < T.length := by have := p.1; omega
    have h2 := List.getElem?_eq_getElem hml
    have h4 := p.2 m _ h2
    have := hx _ (List.mem_of_getElem? h2)
    omega
/-- how many of these have a set route -/
def cSt (l : List TG) : Nat := l.countP (fun t => decide (tr t ≠ []))
def sDl (l : List TG) : Nat := (l.map tl).sum
theorem cSt_le (l : List TG) : cSt l ≤ l.length := List.countP_le_length
theorem sDl_take {l : List TG} (m : Nat) : sDl (l.take m) ≤ sDl l := sum_take m
theorem cSt_q (i : IP A) : cSt (aT A) + (aQ A).length = (aT A).length := cnt_q i
theorem la_who1 {kk : Nat} (hkk : kk < 2 ^ 30) {all : Int32} (c : LC (L := L) w X h0) {C : Nat → Nat → Int32 → Int32 → Int32 → Int32 → Int32 → Int32 → Int64 → AH → Prop} (kc : ∀ g o, fcl h0 g → LC (L := L) w (wO_ X o) g → C 64 63 (nI kk) (nI (aC (bA X))) all (nI (gn (aL (bA X)))) (nI (aT (bA X)).length) (nI (cSt (aT (bA X)))) (lN (sDl (aT (bA X)))) g) :
    ∀ j b x m g o, x + j = aC (bA X) → pre (aT (bA X)) m x → (aT (bA X)).length - m ≤ b → fcl h0 g → LC (L := L) w (wO_ X o) g → wL_isWhole_L18 K C (j + 1) b 64 63 (nI kk) (nI (aC (bA X))) all (nI (gn (aL (bA X)))) (nI m) (nI (cSt ((aT (bA X)).take m))) (lN (sDl ((aT (bA X)).take m))) (nI x) g := by
  have i := c.ip
  have bn := c.bn
  have h9 := bn.1
  intro j
  induction j with
  | zero =>
    intro b x m g o hx p hb f cg
    rw [wL_isWhole_L18]; dsimp only
    rw [nI_leI (by omega) (by omega)]
    have e := pre_all p (fun t ht => by
      have := (i.2.1 t ht).2.2.2.1
      omega)
    rw [e, List.take_length]
    exact ⟨fun _ => kc g o f cg, fun z => absurd (by omega) z⟩
  | succ j ih =>
    intro b x m g o hx p hb f cg
    rw [wL_isWhole_L18]; dsimp only
    rw [nI_leI (by omega) (by omega)]
    refine ⟨fun z => absurd z (by omega), fun _ => ⟨cg.r.o, c9_isPresent cg.r i ?_⟩⟩
    rw [show bA (wO_ X o) = bA X from rfl]
    by_cases hp : ∃ u ∈ aT (bA X), tn u = x
    · obtain ⟨u, hu, e⟩ := hp
      obtain ⟨hm, p'⟩ := pre_at i.2.2.1 p hu e
      have hml := (List.getElem?_eq_some_iff.mp hm).1
      subst e
      rw [fnd_in i bn hu]
      refine ⟨fun z => absurd z (ps1 _), fun _ => ⟨by omega, lw_hasRoute cg.r i (lw_delay cg.r i ?_)⟩⟩
      rw [show bA (wO_ X o) = bA X from rfl, qT_at i bn hu, qT_at i bn hu]
      have htl : tl u < 2 ^ 31 := by
        have := tl_le hu
        have := i.2.2.2.2.2.2
        have := bn.2.2
        omega
      rw [nI_l htl, lN_add, nI_add m 1, nI_add (tn u) 1]
      have e1 : sDl ((aT (bA X)).take m) + tl u = sDl ((aT (bA X)).take (m + 1)) := by
        rw [take_s hm]
        unfold sDl
        simp
      have e2 : nI (cSt ((aT (bA X)).take m)) + (if tr u = [] then nI 0 else nI 1) = nI (cSt ((aT (bA X)).take (m + 1))) := by
        rw [take_s hm]
        unfold cSt
        rw [List.countP_append]
        by_cases z : tr u = []
        · rw [if_pos z, nI_add]; simp [z]
        · rw [if_neg z, nI_add]; simp [z]
      rw [e1, e2]
      have J79 : ∀ g, fcl h0 g → LC (L := L) w (wO_ X o) g → wL_isWhole_J79 K (wL_isWhole_L18 K C (j + 1) (b - 1)) 64 63 (nI kk) (nI (aC (bA X))) all (nI (gn (aL (bA X)))) (nI (m + 1)) (nI (cSt ((aT (bA X)).take (m + 1)))) (lN (sDl ((aT (bA X)).take (m + 1)))) (nI (tn u)) g := by
        intro g f cg
        unfold wL_isWhole_J79
        refine la_isTrain cg hu (fun g2 o2 f2 c2 => ⟨fun _ => ?_, fun z => absurd z (by decide)⟩)
        rw [nI_add (tn u) 1]
        exact ih (b - 1) (tn u + 1) (m + 1) g2 o2 (by omega) p' (by omega) (f.tr f2) c2
      refine ⟨fun _ => J79 g f cg, fun _ => ?_⟩
      rw [nI_add kk 1]
      refine la_pick cg.s63 cg.l260 (by omega) (by decide) (by decide) (fun r _ => ⟨fun _ => ?_, fun _ => J79 g f cg⟩)
      exact ih (b - 1) (tn u + 1) (m + 1) g o (by omega) p' (by omega) f cg
    · have hn : ∀ u ∈ aT (bA X), tn u ≠ x := fun u hu z => hp ⟨u, hu, z⟩
      rw [fnd_no i bn (by omega) hn]
      refine ⟨fun _ => ?_, fun z => absurd rfl z⟩
      rw [nI_add]
      exact ih b (x + 1) m g o (by omega) (pre_no p hn) hb f cg
/-- how many of the first x blocks are held, are occupied -/
def cHd (A : AG) (x : Nat) : Nat := (List.range x).countP (fun b => (hold A b).isSome)
def cOc (A : AG) (x : Nat) : Nat := (List.range x).countP (fun b => occ A b)
theorem cHd_s (A : AG) (x : Nat) : cHd A (x + 1) = cHd A x + if (hold A x).isSome = true then 1 else 0 := by
  unfold cHd
  rw [List.range_succ, List.countP_append, List.countP_singleton]
theorem cOc_s (A : AG) (x : Nat) : cOc A (x + 1) = cOc A x + if occ A x = true then 1 else 0 := by
  unfold cOc
  rw [List.range_succ, List.countP_append, List.countP_singleton]
theorem stc_4 (A : AG) (b : Nat) : stc A b < 128 := (stc_le A b).1
/-- what a block's state says of it -/
theorem stc_f (i : IP A) {b : Nat} (hs : stc A b ≠ 115) : (stc A b = 102 ↔ hold A b = none) ∧ (stc A b = 111 ↔ ∃ t, hold A b = some t ∧ tb t = b) := by
  unfold stc at hs ⊢
  by_cases z : (gh (aL A)).testBit b = true
  · rw [if_pos z] at hs
    exact absurd rfl hs
  · rw [if_neg z]
    by_cases y : resv A b = true
    · rw [if_pos y]
      obtain ⟨t, ht, hb⟩ := resv_iff.mp y
      have hh := hold_in i ht (tr_th hb)
      refine ⟨⟨fun q => by omega, fun q => by rw [hh] at q; cases q⟩, ⟨fun q => by omega, fun ⟨u, h1, h2⟩ => ?_⟩⟩
      rw [hh] at h1
      cases h1
      have hn : (tb t :: tr t).Nodup := (i.2.1 t ht).2.2.2.2.2.2.2.1
      exact absurd (h2.symm ▸ hb) (List.nodup_cons.mp hn).1
    · rw [if_neg y]
      by_cases x : occ A b = true
      · rw [if_pos x]
        obtain ⟨t, ht, hb⟩ := occ_iff.mp x
        have hh := hold_in i ht (show b ∈ th_ t by rw [← hb]; exact tb_th t)
        exact ⟨⟨fun q => by omega, fun q => by rw [hh] at q; cases q⟩, ⟨fun _ => ⟨t, hh, hb⟩, fun _ => rfl⟩⟩
      · rw [if_neg x]
        have hno : hold A b = none := by
          cases e : hold A b with
          | none => rfl
          | some t =>
            obtain ⟨h1, h2⟩ := hold_mem e
            rcases List.mem_cons.mp h2 with q | q
            · exact absurd (occ_iff.mpr ⟨t, h1, q.symm⟩) x
            · exact absurd (resv_iff.mpr ⟨t, h1, q⟩) y
        exact ⟨⟨fun _ => hno, fun _ => rfl⟩, ⟨fun q => by omega, fun ⟨u, h1, _⟩ => by rw [hno] at h1; cases h1⟩⟩
theorem occ_hold (i : IP A) {b : Nat} : occ A b = true ↔ ∃ t, hold A b = some t ∧ tb t = b := by
  rw [occ_iff]
  constructor
  · rintro ⟨t, ht, e⟩
    exact ⟨t, hold_in i ht (by rw [← e]; exact tb_th t), e⟩
  · rintro ⟨t, ht, e⟩
    exact ⟨t, (hold_mem ht).1, e⟩
theorem la_who2 (c : LC (L := L) w X h) {kk : Nat} {all x6 x7 : Int32} {x8 : Int64} {C : Nat → Nat → Int32 → Int32 → Int32 → Int32 → Int32 → Int32 → Int64 → Int32 → Int32 → AH → Prop} (kc : C 64 63 (nI kk) (nI (aC (bA X))) all (nI (gn (aL (bA X)))) x6 x7 x8 (nI (cHd (bA X) (gn (aL (bA X))))) (nI (cOc (bA X) (gn (aL (bA X))))) h) :
    ∀ j b x, x + j = gn (aL (bA X)) → j ≤ b → wL_isWhole_L106 K C (j + 1) b 64 63 (nI kk) (nI (aC (bA X))) all (nI (gn (aL (bA X)))) x6 x7 x8 (nI (cHd (bA X) x)) (nI (cOc (bA X) x)) (nI x) h := by
  have i := c.ip
  have bn := c.bn
  have n12 := c.n12
  intro j
  induction j with
  | zero =>
    intro b x hx hb
    rw [wL_isWhole_L106]; dsimp only
    rw [nI_leI (by omega) (by omega)]
    have e : x = gn (aL (bA X)) := by omega
    rw [e]
    exact ⟨fun _ => kc, fun z => absurd (Nat.le_refl _) z⟩
  | succ j ih =>
    intro b x hx hb
    have hxg : x < gn (aL (bA X)) := by omega
    rw [wL_isWhole_L106]; dsimp only
    rw [nI_leI (by omega) (by omega)]
    refine ⟨fun z => absurd z (by omega), fun _ => ⟨by omega, lw_trainAt c.r i bn ?_⟩⟩
    have nx : wL_isWhole_L106 K C (j + 1) (b - 1) 64 63 (nI kk) (nI (aC (bA X))) all (nI (gn (aL (bA X)))) x6 x7 x8 (nI (cHd (bA X) (x + 1))) (nI (cOc (bA X) (x + 1))) (nI x + nI 1) h := by
      rw [nI_add]
      exact ih (b - 1) (x + 1) (by omega) (by omega)
    have h128 := stc_4 (bA X) x
    cases e : hold (bA X) x with
    | none =>
      have ho : ¬ occ (bA X) x = true := fun z => by
        obtain ⟨t, h1, -⟩ := (occ_hold i).mp z
        rw [e] at h1; cases h1
      rw [cHd_s, cOc_s, e, if_neg ho] at nx
      rw [qAt_no n12 hxg e]
      refine ⟨fun _ => ?_, fun z => absurd (by decide) z⟩
      unfold wL_isWhole_J133 wL_isWhole_J158 wL_isWhole_J159
      rw [nI_add, nI_add]
      refine ⟨fun _ => lw_blockState c.r i ?_, fun z => absurd (by decide) z⟩
      rw [qSt_at n12 hxg]
      have J243 : wL_isWhole_J243 K (wL_isWhole_L106 K C (j + 1) (b - 1)) 64 63 (nI kk) (nI (aC (bA X))) all (nI (gn (aL (bA X)))) x6 x7 x8 (nI (cHd (bA X) x + 0)) (nI (cOc (bA X) x + 0)) (nI x) (-75) (nI 1) h := by
        unfold wL_isWhole_J243
        exact ⟨fun z => absurd z (by decide), fun _ => ⟨fun _ => nx, fun z => absurd (by decide) z⟩⟩
      rw [nI_eq (by omega) (by decide), nI_eq (by omega) (by decide)]
      unfold wL_isWhole_J238
      refine ⟨fun _ => J243, fun hs => ?_⟩
      obtain ⟨s1, s2⟩ := stc_f i hs
      have s102 := s1.mpr e
      refine ⟨fun z => absurd s102 z, fun _ => ?_⟩
      unfold wL_isWhole_J189 wL_isWhole_J199 wL_isWhole_J214 wL_isWhole_J234 wL_isWhole_J235 wL_isWhole_J238
      rw [nI_eq (by omega) (by decide), s102]
      exact ⟨fun z => absurd z (by decide), fun _ => ⟨fun z => absurd rfl z, fun _ => ⟨fun _ => ⟨fun _ => ⟨fun z => absurd rfl z, fun _ => J243⟩, fun z => absurd (by decide) z⟩, fun z => absurd z (by decide)⟩⟩⟩
    | some t =>
      obtain ⟨ht, hm⟩ := hold_mem e
      have htn := tn_lt i bn ht
      have hN := (m75 htn).2.1
      obtain ⟨k1, k2, k3, k4, k5, k6, k7, k8, k9⟩ := i.2.1 t ht
      rw [cHd_s, cOc_s, e] at nx
      rw [qAt_th i n12 ht hxg hm]
      refine ⟨fun z => absurd z hN, fun _ => ?_⟩
      have tb31 : tb t < 2 ^ 31 := by omega
      have x31 : x < 2 ^ 31 := by omega
      by_cases hq : tb t = x
      · have ho : occ (bA X) x = true := (occ_hold i).mpr ⟨t, e, hq⟩
        rw [if_pos ho] at nx
        unfold wL_isWhole_J133
        refine ⟨fun z => absurd z hN, fun _ => lw_blockOf c.r i ?_⟩
        rw [qT_at i bn ht, hq]
        refine ⟨fun z => absurd rfl z, fun _ => ?_⟩
        unfold wL_isWhole_J159
        refine lw_blockState c.r i ?_
        rw [qSt_at n12 hxg, nI_add, nI_add]
        have J243 : wL_isWhole_J243 K (wL_isWhole_L106 K C (j + 1) (b - 1)) 64 63 (nI kk) (nI (aC (bA X))) all (nI (gn (aL (bA X)))) x6 x7 x8 (nI (cHd (bA X) x + 1)) (nI (cOc (bA X) x + 1)) (nI x) (nI (tn t)) (nI 1) h := by
          unfold wL_isWhole_J243
          refine ⟨fun z => absurd z (by decide), fun _ => ⟨fun z => absurd z hN, fun _ => lw_blockOf c.r i ?_⟩⟩
          rw [qT_at i bn ht, hq]
          exact ⟨fun _ => nx, fun z => absurd rfl z⟩
        rw [nI_eq (by omega) (by decide), nI_eq (by omega) (by decide)]
        unfold wL_isWhole_J238
        refine ⟨fun _ => J243, fun hs => ?_⟩
        obtain ⟨s1, s2⟩ := stc_f i hs
        have s111 := s2.mpr ⟨t, e, hq⟩
        refine ⟨fun _ => ?_, fun z => by omega⟩
        unfold wL_isWhole_J189 wL_isWhole_J199 wL_isWhole_J214 wL_isWhole_J235 wL_isWhole_J238
        rw [nI_eq (by omega) (by decide), s111]
        refine ⟨fun _ => ⟨fun z => absurd rfl z, fun _ => ⟨fun z => absurd rfl z, fun _ => ⟨fun z => absurd z hN, fun _ => lw_blockOf c.r i ?_⟩⟩⟩, fun z => absurd (by rw [nI_leI (by decide) htn]; exact Nat.zero_le _) z⟩
        rw [qT_at i bn ht, hq]
        exact ⟨fun z => absurd rfl z, fun _ => ⟨fun z => absurd rfl z, fun _ => J243⟩⟩
      · have hq' : ¬ nI (tb t) = nI x := fun z => hq ((nI_eq tb31 x31).mp z)
        have ho : ¬ occ (bA X) x = true := fun z => by
          obtain ⟨u, h1, h2⟩ := (occ_hold i).mp z
          rw [e] at h1
          cases h1
          exact hq h2
        rw [if_neg ho] at nx
        have hr : tr t ≠ [] := fun z => by
          unfold th_ at hm
          rw [z] at hm
          exact hq (List.mem_singleton.mp hm).symm
        unfold wL_isWhole_J133
        refine ⟨fun z => absurd z hN, fun _ => lw_blockOf c.r i ?_⟩
        rw [qT_at i bn ht]
        refine ⟨fun _ => ?_, fun z => absurd z hq'⟩
        unfold wL_isWhole_J158 wL_isWhole_J159
        refine lw_blockState c.r i ?_
        rw [qSt_at n12 hxg, nI_add, nI_add]
        have J243 : wL_isWhole_J243 K (wL_isWhole_L106 K C (j + 1) (b - 1)) 64 63 (nI kk) (nI (aC (bA X))) all (nI (gn (aL (bA X)))) x6 x7 x8 (nI (cHd (bA X) x + 1)) (nI (cOc (bA X) x + 0)) (nI x) (nI (tn t)) (nI 1) h := by
          unfold wL_isWhole_J243
          refine ⟨fun z => absurd z (by decide), fun _ => ⟨fun z => absurd z hN, fun _ => lw_blockOf c.r i ?_⟩⟩
          rw [qT_at i bn ht]
          refine ⟨fun z => absurd z hq', fun _ => lw_hasRoute c.r i ?_⟩
          rw [qT_at i bn ht, if_neg hr]
          exact ⟨fun _ => nx, fun z => absurd rfl z⟩
        rw [nI_eq (by omega) (by decide), nI_eq (by omega) (by decide)]
        unfold wL_isWhole_J238
        refine ⟨fun _ => J243, fun hs => ?_⟩
        obtain ⟨s1, s2⟩ := stc_f i hs
        have n102 : stc (bA X) x ≠ 102 := fun z => by
          have := s1.mp z
          rw [e] at this; cases this
        have n111 : stc (bA X) x ≠ 111 := fun z => by
          obtain ⟨u, h1, h2⟩ := s2.mp z
          rw [e] at h1
          cases h1
          exact hq h2
        refine ⟨fun _ => ?_, fun z => absurd z n102⟩
        unfold wL_isWhole_J189 wL_isWhole_J199 wL_isWhole_J214 wL_isWhole_J234 wL_isWhole_J235 wL_isWhole_J238
        rw [nI_eq (a := stc (bA X) x) (b := 111) (by omega) (by decide)]
        refine ⟨fun _ => ⟨fun z => absurd rfl z, fun _ => ⟨fun _ => ⟨fun z => absurd z hN, fun _ => lw_blockOf c.r i ?_⟩, fun z => absurd z n111⟩⟩, fun z => absurd (by rw [nI_leI (by decide) htn]; exact Nat.zero_le _) z⟩
        rw [qT_at i bn ht]
        exact ⟨fun _ => ⟨fun z => absurd rfl z, fun _ => J243⟩, fun z => absurd z hq'⟩
theorem q_at (i : IP A) {x : Nat} (hx : x < (aQ A).length) : ∃ t ∈ aT A, tn t = (aQ A).getD x 0 ∧ tr t = [] := by
  have hm : (aQ A).getD x 0 ∈ aQ A := by
    rw [List.getD_eq_getElem?_getD, List.getElem?_eq_getElem hx]
    exact List.getElem_mem _
  obtain ⟨t, ht, h1, h2⟩ := (i.2.2.2.2.1 _).mp hm
  exact ⟨t, ht, h1, h2⟩
theorem la_who3 (c : LC (L := L) w X h) {x2 x4 x5 x10 x11 : Int32} {x8 : Int64} {C : Nat → Nat → Int32 → Int32 → Int32 → Int32 → Int32 → Int32 → Int64 → Int32 → Int32 → AH → Prop} (kc : C 64 63 x2 (nI (aC (bA X))) x4 x5 (nI (aT (bA X)).length) (nI (cSt (aT (bA X)))) x8 x10 x11 h) :
    ∀ j b x, x + j = (aQ (bA X)).length → j ≤ b → wL_isWhole_L287 K C (j + 1) b 64 63 x2 (nI (aC (bA X))) x4 x5 (nI (aT (bA X)).length) (nI (cSt (aT (bA X)))) x8 x10 x11 (nI x) h := by
  have i := c.ip
  have bn := c.bn
  have q8 := i.q8
  have t8 := i.1
  have hq := cSt_q i
  have eN : nI (aT (bA X)).length - nI (cSt (aT (bA X))) = nI (aQ (bA X)).length := by
    rw [nI_sub (cSt_le _)]
    congr 1
    omega
  intro j
  induction j with
  | zero =>
    intro b x hx hb
    rw [wL_isWhole_L287]; dsimp only
    rw [eN, nI_leI (by omega) (by omega)]
    exact ⟨fun _ => kc, fun z => absurd (by omega) z⟩
  | succ j ih =>
    intro b x hx hb
    rw [wL_isWhole_L287]; dsimp only
    rw [eN, nI_leI (by omega) (by omega)]
    refine ⟨fun z => absurd z (by omega), fun _ => ⟨by omega, lw_queued c.r i bn (lw_hasRoute c.r i ?_)⟩⟩
    obtain ⟨t, ht, h1, h2⟩ := q_at i (show x < (aQ (bA X)).length by omega)
    rw [qQ_at (by omega) q8, ← h1, qT_at i bn ht, if_pos h2, nI_add]
    exact ⟨fun _ => ih (b - 1) (x + 1) (by omega) (by omega), fun z => absurd rfl z⟩
theorem la_who4 (c : LC (L := L) w X h) {x2 x3 x4 x5 x6 x7 x10 x11 : Int32} {x8 : Int64} {C : Nat → Nat → Int32 → Int32 → Int32 → Int32 → Int32 → Int32 → Int64 → Int32 → Int32 → AH → Prop} (kc : C 64 63 x2 x3 x4 x5 x6 x7 x8 x10 x11 h) :
    ∀ j b x, x + j = 8 → j ≤ b → wL_isWhole_L321 K C (j + 1) b 64 63 x2 x3 x4 x5 x6 x7 x8 x10 x11 (nI x) h := by
  have i := c.ip
  have bn := c.bn
  intro j
  induction j with
  | zero =>
    intro b x hx hb
    rw [wL_isWhole_L321]; dsimp only
    rw [nI_leI (by decide) (by omega)]
    exact ⟨fun _ => kc, fun z => absurd (by omega) z⟩
  | succ j ih =>
    intro b x hx hb
    rw [wL_isWhole_L321]; dsimp only
    rw [nI_leI (by decide) (by omega)]
    refine ⟨fun z => absurd z (by omega), fun _ => ⟨by omega, lw_lockedBy c.r i bn ?_⟩⟩
    have nx : wL_isWhole_L321 K C (j + 1) (b - 1) 64 63 x2 x3 x4 x5 x6 x7 x8 x10 x11 (nI x + nI 1) h := by
      rw [nI_add]
      exact ih (b - 1) (x + 1) (by omega) (by omega)
    have key : lq [-77, -75] (qLock (bA X) (nI x)) = -77 ∨ lq [-77, -75] (qLock (bA X) (nI x)) = -75 ∨ ∃ t ∈ aT (bA X), tr t ≠ [] ∧ lq [-77, -75] (qLock (bA X) (nI x)) = nI (tn t) := by
      unfold qLock
      split
      · exact Or.inl rfl
      · split
        · exact Or.inl rfl
        · rename_i p _ s _
          cases e : lkr (bA X) s with
          | none => exact Or.inr (Or.inl rfl)
          | some t =>
            have h1 := List.mem_of_find?_eq_some e
            have h2 := of_decide_eq_true (by have := List.find?_some e; exact this)
            exact Or.inr (Or.inr ⟨t, h1, h2.1, rfl⟩)
    rcases key with e | e | ⟨t, ht, hr, e⟩
    · rw [e]
      exact ⟨fun _ => nx, fun z => absurd (by decide) z⟩
    · rw [e]
      exact ⟨fun _ => nx, fun z => absurd (by decide) z⟩
    · rw [e]
      refine ⟨fun z => absurd z (m75 (tn_lt i bn ht)).2.1, fun _ => lw_lockedBy c.r i bn (lw_hasRoute c.r i ?_)⟩
      rw [e, qT_at i bn ht, if_neg hr]
      exact ⟨fun _ => nx, fun z => absurd rfl z⟩
theorem hold_tb (i : IP A) (b : Nat) : (hold A b).isSome = (hbt (aT A)).testBit b := by
  rw [hbt_tb]
  cases e : hold A b with
  | none =>
    have h1 : (aT A).any (fun t => decide (b ∈ th_ t)) = false := by
      rw [List.any_eq_false]
      intro t ht z
      exact hold_no e t ht (of_decide_eq_true z)
    rw [h1]
    rfl
  | some t =>
    obtain ⟨h1, h2⟩ := hold_mem e
    have h3 : (aT A).any (fun t => decide (b ∈ th_ t)) = true := List.any_eq_true.mpr ⟨t, h1, decide_eq_true h2⟩
    rw [h3]
    rfl
theorem used_pc (i : IP A) (il : IL (aL A)) : cHd A (gn (aL A)) = pc (hbt (aT A)) := by
  have h12 := il.1
  unfold cHd
  have e0 : (fun b => (hold A b).isSome) = (fun b => (hbt (aT A)).testBit b) := funext (fun b => hold_tb i b)
  rw [e0]
  unfold pc
  have key : ∀ d x, x + d = 12 → gn (aL A) ≤ x → (List.range x).countP (fun b => (hbt (aT A)).testBit b) = (List.range 12).countP (fun b => (hbt (aT A)).testBit b) := by
    intro d
    induction d with
    | zero => intro x hx _; rw [show x = 12 from hx]
    | succ d ih =>
      intro x hx hg
      rw [← ih (x + 1) (by omega) (by omega), List.range_succ, List.countP_append]
      have hz : (hbt (aT A)).testBit x = false := by
        rw [hbt_tb, List.any_eq_false]
        intro t ht z
        have z := of_decide_eq_true z
        obtain ⟨k1, k2, k3⟩ := i.it.2 t ht
        rcases List.mem_cons.mp z with rfl | z
        · omega
        · have := k3 x z; omega
      simp [List.countP_cons, hz]
  exact key (12 - gn (aL A)) (gn (aL A)) (by omega) (Nat.le_refl _)
theorem cnt_mem : ∀ (l : List Nat) (n : Nat), l.Nodup → (∀ x ∈ l, x < n) → (List.range n).countP (fun b => decide (b ∈ l)) = l.length := by
  intro l
  induction l with
  | nil => intro n _ _; simp
  | cons a l ih =>
    intro n hn hl
    obtain ⟨h1, h2⟩ := List.nodup_cons.mp hn
    have := cnt_up (a := fun b => decide (b ∈ l)) (b := fun b => decide (b ∈ a :: l)) (v := a) (by simp [h1]) (by simp) (fun i hi => by simp [hi]) n (hl a List.mem_cons_self)
    rw [this, ih n h2 (fun x hx => hl x (List.mem_cons_of_mem _ hx)), List.length_cons]
theorem occ_len (i : IP A) : cOc A (gn (aL A)) = (aT A).length := by
  unfold cOc
  have e0 : (fun b => occ A b) = (fun b => decide (b ∈ (aT A).map tb)) := by
    funext b
    have h1 := occ_iff (A := A) (b := b)
    cases e : occ A b with
    | true =>
      obtain ⟨t, ht, hb⟩ := h1.mp e
      exact (decide_eq_true (List.mem_map.mpr ⟨t, ht, hb⟩)).symm
    | false =>
      refine (decide_eq_false (fun z => ?_)).symm
      obtain ⟨t, ht, hb⟩ := List.mem_map.mp z
      rw [h1.mpr ⟨t, ht, hb⟩] at e
      cases e
  rw [e0, cnt_mem _ _ ?_ ?_, List.length_map]
  · have pw := i.2.2.1
    unfold List.Nodup
    rw [List.pairwise_map]
    exact pw.imp (fun {a b} q z => q.2 (tb a) (tb_th a) (by rw [z]; exact tb_th b))
  · intro x hx
    obtain ⟨t, ht, rfl⟩ := List.mem_map.mp hx
    exact (i.2.1 t ht).1
theorem ccl_ne1 {R : Nat → Nat → Bool} (hi : ∀ i, R i i = false) (n : Nat) : ccl R n ≠ 1 := by
  intro z
  unfold ccl at z
  obtain ⟨i, hi1, hi2⟩ : ∃ i, i < n ∧ pth R n i i = true := by
    have : 0 < (List.range n).countP (fun i => pth R n i i) := by omega
    obtain ⟨i, h1, h2⟩ := List.countP_pos_iff.mp this
    exact ⟨i, List.mem_range.mp h1, h2⟩
  obtain ⟨k, k1, k2, k3⟩ := pth_1 (Nat.le_refl n) hi1 hi1 hi2
  have hne : k ≠ i := fun y => by rw [y, hi i] at k2; cases k2
  have h3 : pth R n k i = true := k3.elim (fun y => absurd y hne) id
  have hkk : pth R n k k = true := pth_tr hi1 h3 (pth_e k2 n)
  have := (cnt_2 (s := fun i => pth R n i i) hi1 hi2).mpr ⟨k, k1, hne, hkk⟩
  omega
theorem ded_ne1 (A : AG) : ded A ≠ 1 := ccl_ne1 (fun i => prl_ii _ _ i) _
theorem countP_range_get {T : List TG} (f : TG → Bool) : (List.range T.length).countP (fun i => match T[i]? with
    | some t => f t
    | none => false) = T.countP f := by
  have key : ∀ x, x ≤ T.length → (List.range x).countP (fun i => match T[i]? with
      | some t => f t
      | none => false) = (T.take x).countP f := by
    intro x
    induction x with
    | zero => intro _; rfl
    | succ x ih =>
      intro hx
      obtain ⟨t, ht⟩ : ∃ t, T[x]? = some t := ⟨_, List.getElem?_eq_getElem (by omega)⟩
      rw [List.range_succ, List.countP_append, ih (by omega), take_s ht, List.countP_append, List.countP_singleton, List.countP_singleton, ht]
  rw [key _ (Nat.le_refl _), List.take_length]
theorem ded_le (i : IP A) : ded A ≤ (aQ A).length := by
  have hq := cSt_q i
  have h1 : ded A ≤ (aT A).countP (fun t => decide (tr t = [])) := by
    rw [← countP_range_get]
    unfold ded ccl
    refine List.countP_mono_left (fun x hx hp => ?_)
    have hx := List.mem_range.mp hx
    obtain ⟨k, k1, k2, k3⟩ := pth_1 (Nat.le_refl _) hx hx hp
    unfold prl at k2
    rw [Bool.and_eq_true] at k2
    rw [List.getElem?_eq_getElem hx, List.getElem?_eq_getElem k1] at k2
    rw [List.getElem?_eq_getElem hx]
    exact decide_eq_true (wts_r k2.2)
  have h2 : (aT A).countP (fun t => decide (tr t = [])) + cSt (aT A) = (aT A).length := by
    unfold cSt
    have e := List.length_eq_countP_add_countP (fun t => decide (tr t = [])) (l := aT A)
    rw [e]
    congr 1
    exact List.countP_congr (fun t _ => by simp)
  omega
theorem mst_le (i : IP A) : mst A ≤ (aT A).length := by
  unfold mst
  rw [← tol_max i.1 (prl_s A (aT A)) (fun k => prl_ii _ _ k)]
  exact tol_le _ _ _
theorem mst_ge (i : IP A) (hp : 0 < (aT A).length) : 1 ≤ mst A := by
  have h1 : isz (prl (cfl A) (aT A)) (aT A).length 1 = 1 := by
    unfold isz
    rw [if_pos]
    · decide
    · rw [ind_iff]
      intro a b _ _ ha hb
      have one : ∀ y, (1 : Nat).testBit y = true → y = 0 := fun y hy => by
        have := Nat.testBit_two_pow (n := 0) (m := y)
        rw [show (2 : Nat) ^ 0 = 1 from rfl] at this
        rw [this] at hy
        exact (of_decide_eq_true hy).symm
      rw [one a ha, one b hb]
      exact prl_ii _ _ _
  unfold mst
  rw [← h1]
  exact mxs_ge _ _ _ (Nat.one_lt_two_pow (by omega))
theorem ff_d : ∀ n, n < 13 → ∀ m, m < 12 → Op.cmpValue (FP.fcmp (FP.fdiv (FP.i2f (nI n)) (FP.i2f (nI (m + 1)))) (FP.fdiv (FP.i2f (nI n)) (FP.i2f (nI (m + 1))))) .l = 0 := by decide +kernel
theorem ff_c : ∀ n, n < 13 → ∀ m, m < 12 → vf_n32 (FP.fdiv (FP.i2f (nI n)) (FP.i2f (nI (m + 1)))) ∧ Op.cmpValue (FP.fcmp (FP.fdiv (FP.i2f (nI n)) (FP.i2f (nI (m + 1)))) (FP.fdiv (FP.i2f (nI n)) (FP.i2f (nI (m + 1))))) .l = 0 := by
  intro n hn m hm
  exact ⟨(ff_ok n hn m hm).1, ff_d n hn m hm⟩
theorem c74 : Op.cmpValue (FP.dcmp 13858279740860792832 13858279740860792832) .l = nI 0 ∧ Op.cmpValue (FP.fcmp 3264479232 3264479232) .l = nI 0 := by decide +kernel
theorem la_whoE (c : LC (L := L) w X h) {all : Int32} (hall : isB all) (k : ∀ g, fcl h g → LC (L := L) w X g → K (nI 1) g) :
    wL_isWhole_J389 K 64 (nI (aC (bA X))) all (nI (gn (aL (bA X)))) (nI (aT (bA X)).length) (nI (cSt (aT (bA X)))) (lN (sDl (aT (bA X)))) (nI (cHd (bA X) (gn (aL (bA X))))) (nI (cOc (bA X) (gn (aL (bA X))))) h := by
  have i := c.ip
  have bn := c.bn
  have h9 := bn.1
  have n12 := c.n12
  have t8 := i.1
  have q8 := i.q8
  have hq := cSt_q i
  have hS : sDl (aT (bA X)) ≤ aD (bA X) := i.2.2.2.2.2.2
  have hD := bn.2.2
  have hO : (aT (bA X)).length + aO (bA X) = aC (bA X) := i.2.2.2.2.2.1
  have eN : nI (aT (bA X)).length - nI (cSt (aT (bA X))) = nI (aQ (bA X)).length := by
    rw [nI_sub (cSt_le _)]
    congr 1
    omega
  rw [occ_len i, used_pc i c.gk.1]
  have hpc : pc (hbt (aT (bA X))) < 13 := by have := pc_le (hbt (aT (bA X))); omega
  have J567 : ∀ g, fcl h g → LC (L := L) w X g → wL_isWhole_J567 K 64 (nI (aC (bA X))) (nI (aT (bA X)).length) (nI (cSt (aT (bA X)))) (lN (sDl (aT (bA X)))) (nI (aT (bA X)).length) (nI 1) (nI 1) (nI 1) g := by
    intro g f cg
    unfold wL_isWhole_J567
    refine ⟨fun z => absurd z (by decide), fun _ => ⟨fun z => absurd z (by decide), fun _ => ⟨fun z => absurd z (by decide), fun _ => ⟨cg.r.o, c9_trains cg.r ⟨fun z => absurd rfl z, fun _ => ⟨fun z => ?_, fun _ => ⟨fun z => absurd rfl z, fun _ => la_waiting cg ?_⟩⟩⟩⟩⟩⟩⟩
    · rw [nI_ltI (by decide) (by omega)] at z
      omega
    rw [eN]
    refine ⟨fun z => absurd rfl z, fun _ => ⟨cg.r.o, c9_totalDelay cg.r ⟨fun z => ?_, fun _ => ⟨cg.r.o, c9_arrived cg.r ?_⟩⟩⟩⟩
    · rw [show nI 0 = (0 : Int32) from rfl, lg_cmp_gt, lN_lt (by omega) (by omega)] at z
      omega
    rw [nI_add, show aO (bA X) + (aT (bA X)).length = aC (bA X) by omega]
    exact ⟨fun z => absurd rfl z, fun _ => k g f cg⟩
  have J509 : ∀ g, fcl h g → LC (L := L) w X g → wL_isWhole_J509 K 64 (nI (aC (bA X))) (nI (gn (aL (bA X)))) (nI (aT (bA X)).length) (nI (cSt (aT (bA X)))) (lN (sDl (aT (bA X)))) (nI (pc (hbt (aT (bA X))))) (nI (aT (bA X)).length) (nI 1) (nI 1) g := by
    intro g f cg
    have J558 : wL_usedShare 64 g (fun r144 h143 => ((¬ nI (gn (aL (bA X))) = nI 0 → (vf_n32 (FP.fdiv (FP.i2f (nI (pc (hbt (aT (bA X)))))) (FP.i2f (nI (gn (aL (bA X))))))) ∧ (wL_isWhole_J558 K 64 (nI (aC (bA X))) (nI (aT (bA X)).length) (nI (cSt (aT (bA X)))) (lN (sDl (aT (bA X)))) (nI (aT (bA X)).length) (nI 1) (nI 1) r144 (FP.fdiv (FP.i2f (nI (pc (hbt (aT (bA X)))))) (FP.i2f (nI (gn (aL (bA X)))))) h143)) ∧ (nI (gn (aL (bA X))) = nI 0 → (wL_isWhole_J558 K 64 (nI (aC (bA X))) (nI (aT (bA X)).length) (nI (cSt (aT (bA X)))) (lN (sDl (aT (bA X)))) (nI (aT (bA X)).length) (nI 1) (nI 1) r144 (3264479232) h143)))) := by
      refine lw_usedShare cg.r i ?_
      rw [nI_z (by omega)]
      by_cases z : gn (aL (bA X)) = 0
      · rw [if_pos z]
        refine ⟨fun y => absurd z y, fun _ => ?_⟩
        unfold wL_isWhole_J558
        exact ⟨fun y => absurd c74.2 y, fun _ => J567 g f cg⟩
      · rw [if_neg z]
        obtain ⟨m, hm⟩ : ∃ m, gn (aL (bA X)) = m + 1 := ⟨gn (aL (bA X)) - 1, by omega⟩
        have ff := ff_c (pc (hbt (aT (bA X)))) hpc m (by omega)
        rw [← hm] at ff
        refine ⟨fun _ => ⟨ff.1, ?_⟩, fun y => absurd y z⟩
        unfold wL_isWhole_J558
        exact ⟨fun y => absurd ff.2 y, fun _ => J567 g f cg⟩
    unfold wL_isWhole_J509 wL_isWhole_J533
    refine lw_meanDelay cg.r bn ?_
    rw [nI_z (by omega)]
    by_cases z : aC (bA X) = 0
    · rw [if_pos z]
      exact ⟨fun y => absurd z y, fun _ => ⟨fun y => absurd c74.1 y, fun _ => J558⟩⟩
    · rw [if_neg z]
      refine ⟨fun _ => ⟨cg.r.o, c9_totalDelay cg.r ?_⟩, fun y => absurd y z⟩
      have nn := dd_nn (a := aD (bA X)) (b := aC (bA X)) (by omega) (by omega)
      rw [l2d_N (by omega)]
      exact ⟨n64_of nn, ⟨fun y => absurd (cmp_self nn) y, fun _ => J558⟩⟩
  unfold wL_isWhole_J389 wL_isWhole_J394
  rcases hall with e | e
  · rw [e]
    unfold wL_isWhole_J409 wL_isWhole_J424 wL_isWhole_J504
    exact ⟨fun _ => ⟨fun _ => ⟨fun _ => J509 h (fcl.rf h) c, fun z => absurd rfl z⟩, fun z => absurd rfl z⟩, fun z => absurd rfl z⟩
  · rw [e]
    have d1 := ded_ne1 (bA X)
    have d2 := ded_le i
    have m1 := mst_le i
    refine ⟨fun z => absurd z (by decide), fun _ => ⟨c.r.o, c9_deadlocked c.r i (fun g1 f1 r1 => ?_)⟩⟩
    have c1 := c.fr f1 r1
    unfold wL_isWhole_J409
    refine ⟨fun z => absurd z (by decide), fun _ => ⟨c1.r.o, c9_mostWithoutConflict c1.r i (fun g2 f2 r2 => ?_)⟩⟩
    have c2 := c1.fr f2 r2
    unfold wL_isWhole_J424
    refine ⟨fun z => absurd z (by decide), fun _ => ⟨c2.r.o, c9_deadlockedByPairs c2.r i (fun g3 f3 r3 => ?_)⟩⟩
    have c3 := c2.fr f3 r3
    rw [eN, nI_eq (a := ded (bA X)) (b := 1) (by omega) (by decide), nI_ltI (a := (aQ (bA X)).length) (b := ded (bA X)) (by omega) (by omega)]
    refine ⟨fun z => absurd rfl z, fun _ => ⟨fun z => absurd z d1, fun _ => ⟨fun z => absurd z (by omega), fun _ => ⟨c3.r.o, c9_mostWithoutConflictBySets c3.r i (fun g4 f4 r4 => ?_)⟩⟩⟩⟩
    have c4 := c3.fr f4 r4
    have f := ((f1.tr f2).tr f3).tr f4
    rw [nI_ltI (by omega) (by omega), nI_ltI (by omega) (by decide)]
    unfold wL_isWhole_J483
    rw [nI_ltI (by omega) (by decide)]
    have J494 : ∀ y, wL_isWhole_J494 K 64 (nI (aC (bA X))) (nI (gn (aL (bA X)))) (nI (aT (bA X)).length) (nI (cSt (aT (bA X)))) (lN (sDl (aT (bA X)))) (nI (pc (hbt (aT (bA X))))) (nI (aT (bA X)).length) (nI 1) y y g4 := by
      intro y
      unfold wL_isWhole_J494 wL_isWhole_J504
      exact ⟨fun z => absurd rfl z, fun _ => ⟨c4.r.o, c9_isConsistent c4.r i bn ⟨fun z => absurd z (by decide), fun _ => J509 g4 f c4⟩⟩⟩
    refine ⟨fun z => absurd rfl z, fun _ => ⟨fun z => absurd z (by omega), fun _ => ⟨fun z => ⟨fun _ => J494 _, fun y => ?_⟩, fun z => ⟨fun y => ?_, fun _ => J494 _⟩⟩⟩⟩
    · exfalso
      have := mst_ge i (by omega)
      omega
    · exfalso
      omega
theorem la_isWhole (c : LC (L := L) w X h) {kk : Nat} (hkk : kk < 2 ^ 30) {all : Int32} (hall : isB all) (k : ∀ g o, fcl h g → LC (L := L) w (wO_ X o) g → K (nI 1) g) : wL_isWhole 64 63 (nI kk) (nI (aC (bA X))) all h K := by
  have i := c.ip
  have n12 := c.n12
  have q8 := i.q8
  unfold wL_isWhole
  refine ⟨c.r.o, c9_blocks c.r (T := True) ⟨aC (bA X) + 1, 8, Nat.le_refl _, ?_⟩⟩
  have e0 : X = wO_ X (bO X) := rfl
  refine la_who1 hkk c (fun g o f cg => ?_) (aC (bA X)) 8 0 0 h (bO X) (Nat.zero_add _) (pre_0 _) (by have := i.1; omega) (fcl.rf h) c
  refine ⟨gn (aL (bA X)) + 1, 12, Nat.le_refl _, la_who2 cg ?_ (gn (aL (bA X))) 12 0 (Nat.zero_add _) n12⟩
  refine ⟨(aQ (bA X)).length + 1, 8, Nat.le_refl _, la_who3 cg ?_ (aQ (bA X)).length 8 0 (Nat.zero_add _) q8⟩
  refine ⟨8 + 1, 8, Nat.le_refl _, la_who4 cg ?_ 8 8 0 rfl (Nat.le_refl _)⟩
  have kE := la_whoE cg hall (K := K) (fun g2 f2 c2 => k g2 o (f.tr f2) c2)
  have n12' : gn (aL (bA (wO_ X o))) ≤ 12 := n12
  rw [nI_z (by omega)]
  refine ⟨fun _ => kE, fun z => ?_⟩
  rw [nI_add, nI_add]
  refine la_pick cg.s63 cg.l260 (by omega) (by omega) (by omega) (fun a ha => la_pick cg.s63 cg.l260 (by omega) (by omega) (by omega) (fun b hb => ?_))
  exact la_isRoute cg ha hb ⟨fun y => absurd y (by decide), fun _ => kE⟩
end WHO
