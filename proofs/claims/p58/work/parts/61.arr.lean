/-! ARRIVAL BY PASSING MINUTES -/
section AR
variable {h g : AH} {p w : Nat} {X : BG} {A : AG} {K : Int32 → AH → Prop} {T : String → AH → Prop}
theorem upT_n {num : Nat} {f : TG → TG} (hf : ∀ u, tn (f u) = tn u) : (aT (upT A num f)).map tn = (aT A).map tn := by
  show ((aT A).map (fun t => if tn t = num then f t else t)).map tn = (aT A).map tn
  rw [List.map_map]
  refine List.map_congr_left (fun t _ => ?_)
  show tn (if tn t = num then f t else t) = tn t
  split
  · exact hf t
  · rfl
theorem qGo_n : ∀ (Q : List Nat) (A : AG), (aT (qGo A Q).1).map tn = (aT A).map tn ∧ gl (aL (qGo A Q).1) = gl (aL A) := by
  intro Q
  induction Q with
  | nil => intro A; exact ⟨rfl, rfl⟩
  | cons q Q ih =>
    intro A
    unfold qGo
    cases hf : fnd A (nI q) with
    | none => exact ih A
    | some t =>
      simp only
      by_cases e : can A t = true
      · rw [if_pos e]
        obtain ⟨h1, h2⟩ := ih (setT A t)
        refine ⟨h1.trans (upT_n (fun _ => rfl)), h2.trans ?_⟩
        exact (tnr_fix (rtT A t) (aL A) (tb t)).2.1
      · rw [if_neg e]
        obtain ⟨h1, h2⟩ := ih (let A1 := upT A q (fun u => (tn u, tb u, td u, tr u, tu u, tl u + 1)); (aL A1, aT A1, aQ A1, aC A1, aO A1, aM A1, aD A1 + 1))
        exact ⟨h1.trans (upT_n (fun _ => rfl)), h2⟩
theorem upT_k {num : Nat} {f : TG → TG} {t : TG} (ht : t ∈ aT A) (hn : tn t ≠ num) : t ∈ aT (upT A num f) := List.mem_map.mpr ⟨t, ht, if_neg hn⟩
theorem qGo_k {t : TG} : ∀ (Q : List Nat) (A : AG), t ∈ aT A → (∀ q ∈ Q, q ≠ tn t) → (∀ q ∈ Q, q < 2 ^ 31) → (∀ n ∈ (aT A).map tn, n < 2 ^ 31) → t ∈ aT (qGo A Q).1 := by
  intro Q
  induction Q with
  | nil => intro A ht _ _ _; exact ht
  | cons q Q ih =>
    intro A ht hq hb hn
    have hq' := fun x hx => hq x (List.mem_cons_of_mem _ hx)
    have hb' := fun x hx => hb x (List.mem_cons_of_mem _ hx)
    have h1 := hq q List.mem_cons_self
    unfold qGo
    cases hf : fnd A (nI q) with
    | none => exact ih A ht hq' hb' hn
    | some u =>
      simp only
      have hu : tn u = q := by
        obtain ⟨u1, u2⟩ := fnd_mem hf
        rw [nI_eq (hn _ (List.mem_map.mpr ⟨u, u1, rfl⟩)) (hb q List.mem_cons_self)] at u2
        exact u2
      by_cases e : can A u = true
      · rw [if_pos e]
        exact ih (setT A u) (upT_k (A := wL A (tnr (aL A) (tb u) (rtT A u))) ht (by omega)) hq' hb' (by
          have : (aT (setT A u)).map tn = (aT A).map tn := upT_n (A := wL A (tnr (aL A) (tb u) (rtT A u))) (fun _ => rfl)
          rw [this]; exact hn)
      · rw [if_neg e]
        exact ih (let A1 := upT A q (fun u => (tn u, tb u, td u, tr u, tu u, tl u + 1)); (aL A1, aT A1, aQ A1, aC A1, aO A1, aM A1, aD A1 + 1)) (upT_k ht (by omega)) hq' hb' (by
          have : (aT (upT A q (fun u => (tn u, tb u, td u, tr u, tu u, tl u + 1)))).map tn = (aT A).map tn := upT_n (fun _ => rfl)
          show ∀ n ∈ (aT (upT A q (fun u => (tn u, tb u, td u, tr u, tu u, tl u + 1)))).map tn, n < 2 ^ 31
          rw [this]; exact hn)
/-- the minutes until a train on its route arrives -/
def rem (A : AG) (t : TG) : Nat := tu t - aM A + sl (aL A) (tr t).tail
theorem sl_gl {G G' : LG} (h : gl G' = gl G) : ∀ l, sl G' l = sl G l := by
  intro l
  induction l with
  | nil => rfl
  | cons b l ih => show gl G' b + sl G' l = gl G b + sl G l; rw [h, ih]
/-- in a minute a train comes a minute nearer, or arrives -/
theorem min1_r (k : GK A) (bn : BN A) {t : TG} (ht : t ∈ aT A) (hr : tr t ≠ []) : 1 ≤ rem A t ∧ (rem A t = 1 → ∀ u ∈ aT (min1 A), tn u ≠ tn t) ∧ (rem A t ≠ 1 → ∃ u ∈ aT (min1 A), tn u = tn t ∧ tr u ≠ [] ∧ rem (min1 A) u + 1 = rem A t) := by
  obtain ⟨k1, k2, k3, k4, k5, k6, k7, k8, k9⟩ := k.2.2.2.1 t ht
  obtain ⟨z1, z2, z3⟩ := k7 hr
  have hnq : ∀ q ∈ aQ A, q ≠ tn t := fun q hq e => by
    obtain ⟨u, hu, e1, e2⟩ := (k.2.2.2.2.2.2.1 q).mp hq
    have := k.2.2.tu ht hu (e1.trans e)
    subst this
    exact hr e2
  have hnb : ∀ u ∈ aT A, tn u < 2 ^ 31 := fun u hu => by
    have := (k.2.2.2.1 u hu).2.2.2.1
    have := bn.1
    omega
  have hqb : ∀ q ∈ aQ A, q < 2 ^ 31 := fun q hq => by
    obtain ⟨u, hu, e1, -⟩ := (k.2.2.2.2.2.2.1 q).mp hq
    have := hnb u hu
    omega
  have hmn : ∀ n ∈ (aT (mnt A)).map tn, n < 2 ^ 31 := fun n hn => by
    obtain ⟨u, hu, e⟩ := List.mem_map.mp hn
    obtain ⟨v, hv, e2⟩ := List.mem_map.mp (List.mem_filter.mp hu).1
    have := hnb v hv
    rw [← e, ← e2, (ent_n _ _ _).1]
    exact this
  have hgl : gl (aL (min1 A)) = gl (aL A) := (qGo_n (aQ A) (mnt A)).2
  have hM : aM (min1 A) = aM A + 1 := (min1_s A).2.1
  have hmem : ∀ u : TG, u ∈ aT (mnt A) → tn u = tn t → u ∈ aT (min1 A) := fun u hu e => qGo_k (aQ A) (mnt A) hu (fun q hq => by rw [e]; exact hnq q hq) hqb hmn
  cases hc : tr t with
  | nil => exact absurd hc hr
  | cons c l =>
    rw [hc] at k5 z1 z3
    simp only [List.headD_cons] at z3
    have hrem : rem A t = tu t - aM A + sl (aL A) l := by unfold rem; rw [hc]; rfl
    rw [hrem]
    refine ⟨by omega, fun e1 u hu => ?_, fun e1 => ?_⟩
    · intro e2
      have h1 : tn t ∈ (aT (mnt A)).map tn := by
        rw [← (qGo_n (aQ A) (mnt A)).1]
        exact List.mem_map.mpr ⟨u, hu, e2⟩
      obtain ⟨v, hv, e3⟩ := List.mem_map.mp h1
      obtain ⟨v1, v2⟩ := List.mem_filter.mp hv
      obtain ⟨s, hs, e4⟩ := List.mem_map.mp v1
      have e5 : s = t := k.2.2.tu ht hs (by rw [← e3, ← e4, (ent_n _ _ _).1])
      subst e5
      have hl : l = [] := by
        cases l with
        | nil => rfl
        | cons e l =>
          have := (k.1.2.1 e (k5 e (List.mem_cons_of_mem _ List.mem_cons_self))).1
          simp only [sl] at e1
          omega
      subst hl
      have he : ent (aL A) (aM A + 1) s = (tn s, c, td s, [], tu s, tl s) := by
        unfold ent
        rw [hc]
        simp only
        rw [if_pos (by simp only [sl] at e1; omega)]
      rw [List.getLast?_singleton] at z1
      cases z1
      rw [← e4, he] at v2
      exact absurd (of_decide_eq_true v2) (fun z => z rfl)
    · by_cases e : tu t = aM A + 1
      · cases l with
        | nil => exfalso; apply e1; simp only [sl]; omega
        | cons b l =>
          have he : ent (aL A) (aM A + 1) t = (tn t, c, td t, b :: l, aM A + 1 + gl (aL A) b, tl t) := by
            unfold ent
            rw [hc]
            simp only
            rw [if_pos e]
          have hst : (tn t, c, td t, b :: l, aM A + 1 + gl (aL A) b, tl t) ∈ aT (mnt A) := by
            refine List.mem_filter.mpr ⟨List.mem_map.mpr ⟨t, ht, he⟩, decide_eq_true (fun z => ?_)⟩
            have z : c = td t := z
            unfold th_ at k8
            rw [hc] at k8
            have hcl := (List.nodup_cons.mp (List.nodup_cons.mp k8).2).1
            rw [List.getLast?_cons_cons] at z1
            rw [z] at hcl
            exact hcl (List.mem_of_getLast? z1)
          refine ⟨_, hmem _ hst rfl, rfl, by show b :: l ≠ []; simp, ?_⟩
          unfold rem
          rw [hM, sl_gl hgl]
          show aM A + 1 + gl (aL A) b - (aM A + 1) + sl (aL A) l + 1 = tu t - aM A + sl (aL A) (b :: l)
          simp only [sl]
          omega
      · have he : ent (aL A) (aM A + 1) t = t := by
          unfold ent
          rw [hc]
          simp only
          rw [if_neg e]
        have hst : t ∈ aT (mnt A) := List.mem_filter.mpr ⟨List.mem_map.mpr ⟨t, ht, he⟩, decide_eq_true k3⟩
        refine ⟨t, hmem t hst rfl, rfl, hr, ?_⟩
        unfold rem
        rw [hM, sl_gl hgl, hc]
        show tu t - (aM A + 1) + sl (aL A) l + 1 = tu t - aM A + sl (aL A) l
        omega
theorem rem_le (k : GK A) {t : TG} (ht : t ∈ aT A) (hr : tr t ≠ []) : rem A t ≤ 99 := by
  obtain ⟨k1, k2, k3, k4, k5, k6, k7, k8, k9⟩ := k.2.2.2.1 t ht
  obtain ⟨z1, z2, z3⟩ := k7 hr
  unfold rem
  cases hc : tr t with
  | nil => exact absurd hc hr
  | cons c l =>
    rw [hc] at k5 z3
    unfold th_ at k8
    rw [hc] at k8
    simp only [List.headD_cons] at z3
    have h1 := nd12 k.1 k8 (fun y hy => by
      rcases List.mem_cons.mp hy with rfl | hy
      · exact k1
      · exact k5 y hy)
    have h2 := sl_le k.1 l (fun y hy => k5 y (List.mem_cons_of_mem _ hy))
    have h3 := (k.1.2.1 c (k5 c List.mem_cons_self)).2
    simp only [List.length_cons] at h1
    simp only [List.tail_cons]
    omega
theorem byPass_l {num W : Nat} (hW : W ≤ 99) (hnum : num < 2 ^ 31) (k : ∀ g', fcl h g' → RBp g' p X → K (nI W) g') : ∀ j i g (B : AG), i + j = 108 → fcl h g → RBp g p X → rpS g 151 B → GK B → (∀ q, q ≤ j → BN (mins q B)) → (i = W ∧ (∀ u ∈ aT B, tn u ≠ num) ∨ ∃ t ∈ aT B, tn t = num ∧ tr t ≠ [] ∧ i + rem B t = W) → wX9_minutesUntilArrivalByPassing_L25 K T (j + 1) 64 (nI num) (nI i) (nI i) g := by
  intro j
  induction j with
  | zero =>
    intro i g B hi _ _ _ gk bn hc
    exfalso
    rcases hc with ⟨hc, -⟩ | ⟨t, ht, -, hr, hc⟩
    · omega
    · omega
  | succ j ih =>
    intro i g B hi hf r s gk bn hc
    have hb := bn 0 (Nat.zero_le _)
    have hb : BN B := hb
    have hnb : ∀ u ∈ aT B, tn u < 2 ^ 31 := fun u hu => by
      have := (gk.2.2.2.1 u hu).2.2.2.1
      have := hb.1
      omega
    rw [wX9_minutesUntilArrivalByPassing_L25]; dsimp only
    refine ⟨fun z => absurd z (nI_ge (by omega) (by decide)), fun _ => ⟨r.1.o, ?_⟩⟩
    rw [r.1.f2]
    refine ⟨s.1.o, c_find s gk.2.2.it (fun c hcc => ?_)⟩
    unfold fr_ at hcc
    rcases hc with ⟨hc1, hc2⟩ | ⟨t, ht, e1, hr, e2⟩
    · have hn : fnd B (nI num) = none := List.find?_eq_none.mpr (fun u hu z => by
        have := of_decide_eq_true z
        rw [nI_eq (hnb u hu) hnum] at this
        exact hc2 u hu this)
      rw [hn] at hcc
      have hcc : c = 0 := hcc
      subst hc1
      exact ⟨fun _ => k g hf r, fun z => absurd hcc z⟩
    · cases hn : fnd B (nI num) with
      | none =>
        have := List.find?_eq_none.mp hn t ht
        exact absurd (decide_eq_true (by rw [e1])) this
      | some u =>
        rw [hn] at hcc
        obtain ⟨x, hx, -, rfl⟩ := hcc
        have := s.1.tR hx
        refine ⟨fun z => absurd z (by omega), fun _ => ⟨r.1.o, ?_⟩⟩
        rw [r.1.f2]
        refine ⟨s.1.o, c_passMinute s gk.2.2 hb (fun g2 c2 s2 => ?_)⟩
        rw [nI_add]
        refine ih (i + 1) g2 (min1 B) (by omega) (hf.tr (c2.fcl (by omega) (by omega))) (r.cpy c2 s2.1) s2 (gk_min1 gk (by have := hb.1; omega)) (fun q hq => bn (q + 1) (by omega)) ?_
        obtain ⟨m1, m2, m3⟩ := min1_r gk hb ht hr
        by_cases z : rem B t = 1
        · exact Or.inl ⟨by omega, fun v hv => by rw [← e1]; exact m2 z v hv⟩
        · obtain ⟨v, v1, v2, v3, v4⟩ := m3 z
          exact Or.inr ⟨v, v1, v2.trans e1, v3, by omega⟩
theorem c9_minutesUntilArrivalByPassing (r : RBc h X) (i : PX w X) (hw : w ≤ 6200) {x : Int32} (k : ∀ t, fnd (bA X) x = some t → tr t ≠ [] → ∀ g, fcl h g → RBc g X → K (nI (rem (bA X) t)) g) (kT : (∀ t, fnd (bA X) x = some t → tr t = []) → T xS h) : wX9_minutesUntilArrivalByPassing 64 x h K T := by
  obtain ⟨p, r⟩ := r
  have s := r.2.2.1
  have gk : GK (bA X) := s.gk i.1.1
  unfold wX9_minutesUntilArrivalByPassing
  refine ⟨r.1.o, c_routed r i.1.1 (fun j t hf e hj h8 => ?_) kT⟩
  have ht := List.mem_of_getElem? hj
  have hb : BN (bA X) := i.1.2.bn hw
  have hnb : tn t < 2 ^ 31 := by
    have := (gk.2.2.2.1 t ht).2.2.2.1
    have := hb.1
    omega
  have q3 : isO h (mR h 98 j) 6 := s.1.tO h8
  have q4 : mI h (mR h 98 j) 0 = nI (tn t) := (s.t hj).1
  rw [r.1.f2, r.1.f0, q4]
  refine ⟨q3, r.1.o, r.2.1.2.2.1.o, c_copyS s r.2.1.2.2.1 (by omega) (fun g1 c1 _ s1 => ⟨109, ?_⟩)⟩
  refine byPass_l (h := h) (W := rem (bA X) t) (rem_le gk ht e) hnb (fun g' f' r' => k t hf e g' f' ⟨p, r'⟩) 108 0 g1 (bA X) rfl (c1.fcl (by omega) (by omega)) (r.cpy c1 s1.1) s1 gk (fun q hq => ?_) (Or.inr ⟨t, ht, rfl, e, Nat.zero_add _⟩)
  exact (i.1.2.mins gk hw (by omega)).2.2.2
end AR
