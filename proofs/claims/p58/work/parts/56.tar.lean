/-! CIRCLES: Tarjan's search -/
section TA
variable {R : Nat → Nat → Bool} {n v vis vis0 c c0 e y : Nat} {G : List Nat} {f f0 : Nat → Nat} {P P0 : Nat → Bool}
/-- f: when each node was found (0: not yet), P: those pending, G: those under way -/
def TI (n : Nat) (R : Nat → Nat → Bool) (G : List Nat) (f : Nat → Nat) (P : Nat → Bool) (vis c : Nat) : Prop :=
  (∀ i, i < n → f i ≤ vis) ∧ (∀ i j, i < n → j < n → f i ≠ 0 → f i = f j → i = j) ∧ G.Nodup ∧ (∀ g ∈ G, g < n ∧ P g = true) ∧ (∀ i, i < n → P i = true → f i ≠ 0) ∧
  (∀ i j, i < n → j < n → f i ≠ 0 → P i = false → R i j = true → f j ≠ 0 ∧ P j = false) ∧ (∀ i j, i < n → j < n → f i ≠ 0 → i ∉ G → R i j = true → f j ≠ 0) ∧
  (∀ g p, g ∈ G → p < n → P p = true → f g ≤ f p → rch R n g p) ∧ (∀ p, p < n → P p = true → ∃ g ∈ G, f g ≤ f p ∧ rch R n p g) ∧
  c = (List.range n).countP (fun i => decide (f i ≠ 0) && (!P i && pth R n i i)) ∧ vis = (List.range n).countP (fun i => decide (f i ≠ 0))
theorem TI.enter (t : TI n R G f P vis c) (hv : v < n) (h0 : f v = 0) (hg : ∀ g ∈ G, rch R n g v) : TI n R (v :: G) (ups f v (vis + 1)) (ups P v true) (vis + 1) c := by
  obtain ⟨i1, i2, i3, i4, i5, i6, i7, i8, i9, i10, i11⟩ := t
  have hPv : P v = false := by
    cases hz : P v with
    | false => rfl
    | true => exact absurd h0 (i5 v hv hz)
  have hvG : v ∉ G := fun z => by rw [(i4 v z).2] at hPv; cases hPv
  have fo : ∀ i, i ≠ v → ups f v (vis + 1) i = f i := fun i hi => ups_o hi
  have po : ∀ i, i ≠ v → ups P v true i = P i := fun i hi => ups_o hi
  have fs : ups f v (vis + 1) v = vis + 1 := ups_s _ _ _
  have ps : ups P v true v = true := ups_s _ _ _
  have gv : ∀ g ∈ G, g ≠ v := fun g h z => hvG (z ▸ h)
  refine ⟨fun i hi => ?_, fun i j hi hj hne he => ?_, List.nodup_cons.mpr ⟨hvG, i3⟩, fun g hgm => ?_, fun i hi hP => ?_, fun i j hi hj hne hP hR => ?_, fun i j hi hj hne hG hR => ?_, fun g p hgm hp hP hle => ?_, fun p hp hP => ?_, ?_, ?_⟩
  · by_cases z : i = v
    · subst z; rw [fs]; exact Nat.le_refl _
    · rw [fo i z]; exact Nat.le_succ_of_le (i1 i hi)
  · by_cases z : i = v
    · by_cases z2 : j = v
      · rw [z, z2]
      · rw [z, fs, fo j z2] at he
        have := i1 j hj
        omega
    · by_cases z2 : j = v
      · rw [z2, fs, fo i z] at he
        have := i1 i hi
        omega
      · rw [fo i z, fo j z2] at he
        rw [fo i z] at hne
        exact i2 i j hi hj hne he
  · rcases List.mem_cons.mp hgm with rfl | h
    · exact ⟨hv, ps⟩
    · rw [po g (gv g h)]; exact i4 g h
  · by_cases z : i = v
    · subst z; rw [fs]; exact Nat.succ_ne_zero _
    · rw [po i z] at hP; rw [fo i z]; exact i5 i hi hP
  · have z : i ≠ v := fun z => by rw [z, ps] at hP; cases hP
    rw [po i z] at hP
    rw [fo i z] at hne
    obtain ⟨a1, a2⟩ := i6 i j hi hj hne hP hR
    have z2 : j ≠ v := fun z => a1 (z ▸ h0)
    rw [fo j z2, po j z2]
    exact ⟨a1, a2⟩
  · have z : i ≠ v := fun z => hG (z ▸ List.mem_cons_self)
    rw [fo i z] at hne
    have a1 := i7 i j hi hj hne (fun y => hG (List.mem_cons_of_mem _ y)) hR
    have z2 : j ≠ v := fun z => a1 (z ▸ h0)
    rw [fo j z2]
    exact a1
  · rcases List.mem_cons.mp hgm with rfl | h
    · by_cases z : p = g
      · rw [z]; exact rch.rf _
      · rw [fs, fo p z] at hle
        have := i1 p hp
        omega
    · by_cases z : p = v
      · rw [z]; exact hg g h
      · rw [fo g (gv g h), fo p z] at hle
        rw [po p z] at hP
        exact i8 g p h hp hP hle
  · by_cases z : p = v
    · exact ⟨v, List.mem_cons_self, by rw [z]; exact Nat.le_refl _, by rw [z]; exact rch.rf _⟩
    · rw [po p z] at hP
      obtain ⟨g, h1, h2, h3⟩ := i9 p hp hP
      exact ⟨g, List.mem_cons_of_mem _ h1, by rw [fo g (gv g h1), fo p z]; exact h2, h3⟩
  · rw [i10]
    refine List.countP_congr (fun i _ => ?_)
    by_cases z : i = v
    · subst z; simp [h0, ps]
    · rw [fo i z, po i z]
  · rw [cnt_up (a := fun i => decide (f i ≠ 0)) (v := v) (by simp [h0]) (by rw [fs]; simp) (fun i hi => by rw [fo i hi]) n hv, ← i11]
/-- while v is searched: its edges to nodes below y are done, e is the earliest found so far -/
def TL (n : Nat) (R : Nat → Nat → Bool) (G : List Nat) (v : Nat) (f0 : Nat → Nat) (P0 : Nat → Bool) (vis0 y e : Nat) (f : Nat → Nat) (P : Nat → Bool) (vis c : Nat) : Prop :=
  TI n R (v :: G) f P vis c ∧ (∀ i, i < n → ups f0 v (vis0 + 1) i ≠ 0 → f i = ups f0 v (vis0 + 1) i ∧ P i = ups P0 v true i) ∧ (∀ i, i < n → ups f0 v (vis0 + 1) i = 0 → f i ≠ 0 → vis0 + 1 < f i) ∧ vis0 + 1 ≤ vis ∧
  (∃ u, u < n ∧ P u = true ∧ f u = e ∧ rch R n v u ∧ e ≤ vis0 + 1) ∧ (∀ j, j < n → j < y → R v j = true → f j ≠ 0 ∧ (P j = true → e ≤ f j)) ∧
  (∀ i j, i < n → j < n → ups f0 v (vis0 + 1) i = 0 → f i ≠ 0 → R i j = true → ups P0 v true j = true → e ≤ f j)
/-- when v has been searched: L is the earliest that it leads back to -/
def TQ (n : Nat) (R : Nat → Nat → Bool) (G : List Nat) (v : Nat) (f0 : Nat → Nat) (P0 : Nat → Bool) (vis0 : Nat) (f : Nat → Nat) (P : Nat → Bool) (vis c L : Nat) : Prop :=
  TI n R G f P vis c ∧ (∀ i, i < n → f0 i ≠ 0 → f i = f0 i ∧ P i = P0 i) ∧ (∀ i, i < n → f0 i = 0 → f i ≠ 0 → vis0 < f i) ∧ vis0 ≤ vis ∧ f v ≠ 0 ∧
  (P v = true → ∃ u, u < n ∧ P u = true ∧ f u = L ∧ rch R n v u ∧ L < f v) ∧ (P v = false → L = f v) ∧
  (∀ i j, i < n → j < n → f0 i = 0 → f i ≠ 0 → R i j = true → P0 j = true → L ≤ f j)
theorem TL.begin (t : TI n R G f0 P0 vis0 c) (hv : v < n) (h0 : f0 v = 0) (hg : ∀ g ∈ G, rch R n g v) : TL n R G v f0 P0 vis0 0 (vis0 + 1) (ups f0 v (vis0 + 1)) (ups P0 v true) (vis0 + 1) c := by
  refine ⟨t.enter hv h0 hg, fun _ _ _ => ⟨rfl, rfl⟩, fun i _ h1 h2 => absurd h1 h2, Nat.le_refl _, ⟨v, hv, ups_s _ _ _, ups_s _ _ _, rch.rf _, Nat.le_refl _⟩, fun j _ h => absurd h (Nat.not_lt_zero j), fun i j _ _ h1 h2 => absurd h1 h2⟩
theorem TL.vv (t : TL n R G v f0 P0 vis0 y e f P vis c) (hv : v < n) : f v = vis0 + 1 ∧ P v = true := by
  have := t.2.1 v hv (by rw [ups_s]; exact Nat.succ_ne_zero _)
  rw [ups_s, ups_s] at this
  exact this
theorem TL.skip (t : TL n R G v f0 P0 vis0 y e f P vis c) (h : R v y = true → f y ≠ 0 ∧ P y = false) : TL n R G v f0 P0 vis0 (y + 1) e f P vis c := by
  obtain ⟨t1, t2, t3, t4, t5, t6, t7⟩ := t
  refine ⟨t1, t2, t3, t4, t5, fun j hj hjy hR => ?_, t7⟩
  by_cases z : j = y
  · subst z
    obtain ⟨h1, h2⟩ := h hR
    exact ⟨h1, fun h3 => by rw [h2] at h3; cases h3⟩
  · exact t6 j hj (by omega) hR
theorem TL.pend (t : TL n R G v f0 P0 vis0 y e f P vis c) (hy : y < n) (hR : R v y = true) (h1 : f y ≠ 0) (h2 : P y = true) : TL n R G v f0 P0 vis0 (y + 1) (if f y < e then f y else e) f P vis c := by
  obtain ⟨t1, t2, t3, t4, ⟨u, u1, u2, u3, u4, u5⟩, t6, t7⟩ := t
  have hle : (if f y < e then f y else e) ≤ e := by split <;> omega
  refine ⟨t1, t2, t3, t4, ?_, fun j hj hjy hRj => ?_, fun i j a b c d e f => Nat.le_trans hle (t7 i j a b c d e f)⟩
  · by_cases z : f y < e
    · rw [if_pos z]
      exact ⟨y, hy, h2, rfl, rch.e hR, by omega⟩
    · rw [if_neg z]
      exact ⟨u, u1, u2, u3, u4, u5⟩
  · by_cases z : j = y
    · subst z
      refine ⟨h1, fun _ => ?_⟩
      split <;> omega
    · obtain ⟨a1, a2⟩ := t6 j hj (by omega) hRj
      exact ⟨a1, fun h3 => Nat.le_trans hle (a2 h3)⟩
theorem TL.white {f' : Nat → Nat} {P' : Nat → Bool} {vis' c' L : Nat} (t : TL n R G v f0 P0 vis0 y e f P vis c) (h5 : ∀ i, i < n → P0 i = true → f0 i ≠ 0) (hv : v < n) (hy : y < n) (hR : R v y = true) (hw : f y = 0) (q : TQ n R (v :: G) y f P vis f' P' vis' c' L) : TL n R G v f0 P0 vis0 (y + 1) (if L < e then L else e) f' P' vis' c' := by
  have hfv := t.vv hv
  obtain ⟨t1, t2, t3, t4, ⟨u, u1, u2, u3, u4, u5⟩, t6, t7⟩ := t
  obtain ⟨q1, q2, q3, q4, q5, q6, q7, q8⟩ := q
  have hle : (if L < e then L else e) ≤ e := by split <;> omega
  have hle2 : (if L < e then L else e) ≤ L := by split <;> omega
  have t15 := t1.2.2.2.2.1
  have hP1 : ∀ j, j < n → ups P0 v true j = true → ups f0 v (vis0 + 1) j ≠ 0 := fun j hj h => by
    by_cases z : j = v
    · subst z; rw [ups_s]; exact Nat.succ_ne_zero _
    · rw [ups_o z] at h ⊢; exact h5 j hj h
  refine ⟨q1, fun i hi h => ?_, fun i hi h1 h2 => ?_, by omega, ?_, fun j hj hjy hRj => ?_, fun i j hi hj h1 h2 h3 h4 => ?_⟩
  · obtain ⟨a1, a2⟩ := t2 i hi h
    obtain ⟨b1, b2⟩ := q2 i hi (by rw [a1]; exact h)
    exact ⟨b1.trans a1, b2.trans a2⟩
  · by_cases z : f i = 0
    · have := q3 i hi z h2
      omega
    · rw [(q2 i hi z).1]
      exact t3 i hi h1 z
  · have hu : f u ≠ 0 := t15 u u1 u2
    obtain ⟨b1, b2⟩ := q2 u u1 hu
    by_cases z : L < e
    · rw [if_pos z]
      cases hPy : P' y with
      | true =>
        obtain ⟨w, w1, w2, w3, w4, w5⟩ := q6 hPy
        exact ⟨w, w1, w2, w3, rch.tr hy (rch.e hR) w4, by omega⟩
      | false =>
        have e1 := q7 hPy
        have := q3 y hy hw q5
        omega
    · rw [if_neg z]
      exact ⟨u, u1, by rw [b2]; exact u2, by rw [b1]; exact u3, u4, u5⟩
  · by_cases z : j = y
    · subst z
      refine ⟨q5, fun h => ?_⟩
      obtain ⟨w, w1, w2, w3, w4, w5⟩ := q6 h
      omega
    · obtain ⟨a1, a2⟩ := t6 j hj (by omega) hRj
      obtain ⟨b1, b2⟩ := q2 j hj a1
      refine ⟨by rw [b1]; exact a1, fun h => ?_⟩
      rw [b1]
      exact Nat.le_trans hle (a2 (by rw [← b2]; exact h))
  · have h6 := hP1 j hj h4
    obtain ⟨a1, a2⟩ := t2 j hj h6
    have hfj : f j ≠ 0 := by rw [a1]; exact h6
    by_cases z : f i = 0
    · exact Nat.le_trans hle2 (q8 i j hi hj z h2 h3 (by rw [a2]; exact h4))
    · rw [(q2 j hj hfj).1]
      exact Nat.le_trans hle (t7 i j hi hj h1 z h3 h4)
theorem TL.stay (h5 : ∀ i, i < n → P0 i = true → f0 i ≠ 0) (hv : v < n) (h0 : f0 v = 0) (t : TL n R G v f0 P0 vis0 n e f P vis c) (hne : e ≠ f v) : TQ n R G v f0 P0 vis0 f P vis c e := by
  obtain ⟨fv, pv⟩ := t.vv hv
  obtain ⟨t1, t2, t3, t4, ⟨u, u1, u2, u3, u4, u5⟩, t6, t7⟩ := t
  obtain ⟨i1, i2, i3, i4, i5, i6, i7, i8, i9, i10, i11⟩ := t1
  have fo : ∀ i, i ≠ v → ups f0 v (vis0 + 1) i = f0 i := fun i hi => ups_o hi
  have po : ∀ i, i ≠ v → ups P0 v true i = P0 i := fun i hi => ups_o hi
  refine ⟨⟨i1, i2, (List.nodup_cons.mp i3).2, fun g hg => i4 g (List.mem_cons_of_mem _ hg), i5, i6, fun i j hi hj h1 h2 h3 => ?_, fun g p hg => i8 g p (List.mem_cons_of_mem _ hg), fun p hp hP => ?_, i10, i11⟩, fun i hi h => ?_, fun i hi h1 h2 => ?_, by omega, by omega, fun _ => ⟨u, u1, u2, u3, u4, by omega⟩, fun h => (by rw [pv] at h; cases h), fun i j hi hj h1 h2 h3 h4 => ?_⟩
  · by_cases z : i = v
    · subst z; exact (t6 j hj hj h3).1
    · refine i7 i j hi hj h1 (fun y => ?_) h3
      rcases List.mem_cons.mp y with y | y
      · exact z y
      · exact h2 y
  · obtain ⟨g, g1, g2, g3⟩ := i9 p hp hP
    rcases List.mem_cons.mp g1 with rfl | g1
    · obtain ⟨k, k1, k2, k3⟩ := i9 u u1 u2
      rcases List.mem_cons.mp k1 with rfl | k1
      · omega
      · exact ⟨k, k1, by omega, rch.tr hv g3 (rch.tr u1 u4 k3)⟩
    · exact ⟨g, g1, g2, g3⟩
  · have z : i ≠ v := fun z => h (z ▸ h0)
    obtain ⟨a1, a2⟩ := t2 i hi (by rw [fo i z]; exact h)
    rw [fo i z] at a1
    rw [po i z] at a2
    exact ⟨a1, a2⟩
  · by_cases z : i = v
    · subst z; omega
    · have := t3 i hi (by rw [fo i z]; exact h1) h2
      omega
  · have z2 : j ≠ v := fun z => h5 j hj h4 (z ▸ h0)
    have hPj : P j = true := by
      rw [(t2 j hj (by rw [fo j z2]; exact h5 j hj h4)).2, po j z2]
      exact h4
    by_cases z : i = v
    · subst z; exact (t6 j hj hj h3).2 hPj
    · exact t7 i j hi hj (by rw [fo i z]; exact h1) h2 h3 (by rw [po j z2]; exact h4)
/-- the pending nodes found since v -/
def snc (f : Nat → Nat) (P : Nat → Bool) (a i : Nat) : Bool := P i && decide (a ≤ f i)
theorem TL.close (hi0 : ∀ i, R i i = false) (t0 : TI n R G f0 P0 vis0 c0) (hv : v < n) (h0 : f0 v = 0) (t : TL n R G v f0 P0 vis0 n e f P vis c) (he : e = f v) : TQ n R G v f0 P0 vis0 f (fun i => P i && !snc f P e i) vis (c + if 1 < (List.range n).countP (snc f P e) then (List.range n).countP (snc f P e) else 0) e := by
  obtain ⟨fv, pv⟩ := t.vv hv
  obtain ⟨t1, t2, t3, t4, ⟨u, u1, u2, u3, u4, u5⟩, t6, t7⟩ := t
  obtain ⟨i1, i2, i3, i4, i5, i6, i7, i8, i9, i10, i11⟩ := t1
  have h5 := t0.2.2.2.2.1
  have h4 := t0.2.2.2.1
  have fo : ∀ i, i ≠ v → ups f0 v (vis0 + 1) i = f0 i := fun i hi => ups_o hi
  have po : ∀ i, i ≠ v → ups P0 v true i = P0 i := fun i hi => ups_o hi
  have old : ∀ i, i < n → f0 i ≠ 0 → f i = f0 i ∧ P i = P0 i ∧ f i < e := fun i hi h => by
    have z : i ≠ v := fun z => h (z ▸ h0)
    obtain ⟨a1, a2⟩ := t2 i hi (by rw [fo i z]; exact h)
    rw [fo i z] at a1
    rw [po i z] at a2
    have := t0.1 i hi
    exact ⟨a1, a2, by omega⟩
  have gG : ∀ g ∈ G, g < n ∧ f g < e ∧ P g = true := fun g hg => by
    obtain ⟨a1, a2⟩ := h4 g hg
    obtain ⟨b1, b2, b3⟩ := old g a1 (h5 g a1 a2)
    exact ⟨a1, b3, by rw [b2]; exact a2⟩
  have hS : ∀ i, snc f P e i = true ↔ P i = true ∧ e ≤ f i := fun i => by
    unfold snc
    rw [Bool.and_eq_true, decide_eq_true_eq]
  have hnv : ∀ i j, i < n → j < n → f0 i = 0 → f i ≠ 0 → R i j = true → P0 j = true → e ≤ f j := fun i j hi hj h1 h2 h3 h6 => by
    have z2 : j ≠ v := fun z => h5 j hj h6 (z ▸ h0)
    have hPj : P j = true := by rw [(old j hj (h5 j hj h6)).2.1]; exact h6
    by_cases z : i = v
    · subst z; exact (t6 j hj hj h3).2 hPj
    · exact t7 i j hi hj (by rw [fo i z]; exact h1) h2 h3 (by rw [po j z2]; exact h6)
  have hA : ∀ i j, i < n → j < n → snc f P e i = true → R i j = true → f j ≠ 0 ∧ (snc f P e j = true ∨ P j = false) := fun i j hi hj hs hR => by
    obtain ⟨s1, s2⟩ := (hS i).mp hs
    have hf0 : f0 i = 0 := by
      by_cases z : f0 i = 0
      · exact z
      · have := (old i hi z).2.2
        omega
    have hfj : f j ≠ 0 := by
      by_cases z : i = v
      · subst z; exact (t6 j hj hj hR).1
      · refine i7 i j hi hj (i5 i hi s1) (fun y => ?_) hR
        rcases List.mem_cons.mp y with y | y
        · exact z y
        · have := gG i y
          omega
    refine ⟨hfj, ?_⟩
    cases hPj : P j with
    | false => exact Or.inr rfl
    | true =>
      refine Or.inl ((hS j).mpr ⟨hPj, Nat.le_of_not_lt (fun hlt => ?_)⟩)
      have hfj0 : f0 j ≠ 0 := fun z => by
        have z2 : j ≠ v := fun z => by subst z; omega
        have := t3 j hj (by rw [fo j z2]; exact z) hfj
        omega
      have := hnv i j hi hj hf0 (i5 i hi s1) hR (by rw [← (old j hj hfj0).2.1]; exact hPj)
      omega
  have hB : ∀ p, p < n → snc f P e p = true → rch R n p v := fun p hp hs => by
    obtain ⟨s1, s2⟩ := (hS p).mp hs
    obtain ⟨g, g1, g2, g3⟩ := i9 p hp s1
    rcases List.mem_cons.mp g1 with rfl | g1
    · exact g3
    · exfalso
      obtain ⟨b1, b2, b3⟩ := gG g g1
      have := rch.cl (C := fun i => snc f P e i = true ∨ (f i ≠ 0 ∧ P i = false)) (fun i j hi hj hc hR => by
        rcases hc with hc | ⟨hc1, hc2⟩
        · obtain ⟨a1, a2⟩ := hA i j hi hj hc hR
          rcases a2 with a2 | a2
          · exact Or.inl a2
          · exact Or.inr ⟨a1, a2⟩
        · exact Or.inr (i6 i j hi hj hc1 hc2 hR)) hp b1 (Or.inl hs) g3
      rcases this with z | ⟨-, z⟩
      · have := ((hS g).mp z).2
        omega
      · rw [b3] at z; cases z
  have hC : ∀ p, p < n → snc f P e p = true → rch R n v p := fun p hp hs => by
    obtain ⟨s1, s2⟩ := (hS p).mp hs
    exact i8 v p List.mem_cons_self hp s1 (by omega)
  have hSv : snc f P e v = true := (hS v).mpr ⟨pv, by omega⟩
  have hcy : (1 < (List.range n).countP (snc f P e)) ↔ pth R n v v = true := by
    rw [cnt_2 hv hSv]
    constructor
    · rintro ⟨j, j1, j2, j3⟩
      exact rch.cyc j1 (fun z => j2 z.symm) (hC j j1 j3) (hB j j1 j3)
    · intro h
      obtain ⟨k, k1, k2, k3⟩ := pth_1 (Nat.le_refl n) hv hv h
      have hkv : k ≠ v := fun z => by rw [z, hi0 v] at k2; cases k2
      have k4 := k3.resolve_left hkv
      obtain ⟨a1, a2⟩ := hA v k hv k1 hSv k2
      rcases a2 with a2 | a2
      · exact ⟨k, k1, hkv, a2⟩
      · exfalso
        have := pth_cl (C := fun i => f i ≠ 0 ∧ P i = false) (fun i j hi hj hc hR => i6 i j hi hj hc.1 hc.2 hR) (Nat.le_refl n) k1 hv ⟨a1, a2⟩ k4
        rw [pv] at this
        cases this.2
  have hcy2 : ∀ i, i < n → snc f P e i = true → pth R n i i = pth R n v v := fun i hi hs => by
    by_cases z : i = v
    · rw [z]
    · have h1 := rch.cyc hv z (hB i hi hs) (hC i hi hs)
      have h2 := rch.cyc hi (fun y => z y.symm) (hC i hi hs) (hB i hi hs)
      rw [h1, h2]
  have pn : ∀ i, (P i && !snc f P e i) = true ↔ P i = true ∧ f i < e := fun i => by
    rw [Bool.and_eq_true, Bool.not_eq_true']
    constructor
    · rintro ⟨a, b⟩
      refine ⟨a, Nat.lt_of_not_le (fun z => ?_)⟩
      rw [(hS i).mpr ⟨a, z⟩] at b
      cases b
    · rintro ⟨a, b⟩
      refine ⟨a, ?_⟩
      cases hz : snc f P e i with
      | false => rfl
      | true => have := ((hS i).mp hz).2; omega
  have pf : ∀ i, (P i && !snc f P e i) = false ↔ P i = false ∨ snc f P e i = true := fun i => by
    cases P i <;> cases snc f P e i <;> simp
  refine ⟨⟨i1, i2, (List.nodup_cons.mp i3).2, fun g hg => ⟨(gG g hg).1, (pn g).mpr ⟨(gG g hg).2.2, (gG g hg).2.1⟩⟩, fun i hi h => i5 i hi ((pn i).mp h).1, fun i j hi hj h1 h2 h3 => ?_, fun i j hi hj h1 h2 h3 => ?_, fun g p hg hp hP hle => i8 g p (List.mem_cons_of_mem _ hg) hp ((pn p).mp hP).1 hle, fun p hp hP => ?_, ?_, i11⟩, fun i hi h => ?_, fun i hi h1 h2 => ?_, by omega, by omega, fun h => ?_, fun _ => he, hnv⟩
  · rcases (pf i).mp h2 with z | z
    · obtain ⟨a1, a2⟩ := i6 i j hi hj h1 z h3
      exact ⟨a1, (pf j).mpr (Or.inl a2)⟩
    · obtain ⟨a1, a2⟩ := hA i j hi hj z h3
      exact ⟨a1, (pf j).mpr a2.symm⟩
  · by_cases z : i = v
    · subst z; exact (t6 j hj hj h3).1
    · refine i7 i j hi hj h1 (fun y => ?_) h3
      rcases List.mem_cons.mp y with y | y
      · exact z y
      · exact h2 y
  · obtain ⟨a1, a2⟩ := (pn p).mp hP
    obtain ⟨g, g1, g2, g3⟩ := i9 p hp a1
    rcases List.mem_cons.mp g1 with rfl | g1
    · omega
    · exact ⟨g, g1, g2, g3⟩
  · have e1 : (List.range n).countP (fun i => decide (f i ≠ 0) && (!(P i && !snc f P e i) && pth R n i i)) = (List.range n).countP (fun i => (decide (f i ≠ 0) && (!P i && pth R n i i)) || (snc f P e i && pth R n v v)) := by
      refine List.countP_congr (fun i hi => ?_)
      have hi := List.mem_range.mp hi
      cases hs : snc f P e i with
      | false => simp
      | true =>
        obtain ⟨s1, -⟩ := (hS i).mp hs
        have h1 := i5 i hi s1
        rw [hcy2 i hi hs]
        simp [h1, s1]
    rw [e1, cnt_or (fun i hi => ?_), ← i10]
    · congr 1
      by_cases z : pth R n v v = true
      · rw [if_pos (hcy.mpr z)]
        refine List.countP_congr (fun i _ => ?_)
        simp [z]
      · rw [if_neg (fun y => z (hcy.mp y))]
        symm
        rw [List.countP_eq_zero]
        intro i _
        simp [z]
    · simp only [Bool.and_eq_true, Bool.not_eq_true'] at hi
      cases hs : snc f P e i with
      | false => rfl
      | true =>
        have := ((hS i).mp hs).1
        rw [hi.2.1] at this
        cases this
  · obtain ⟨a1, a2, a3⟩ := old i hi h
    refine ⟨a1, ?_⟩
    show (P i && !snc f P e i) = P0 i
    rw [← a2]
    cases hP : P i with
    | false => rfl
    | true =>
      have := (pn i).mpr ⟨hP, a3⟩
      rw [hP] at this
      exact this
  · by_cases z : i = v
    · subst z; omega
    · have := t3 i hi (by rw [fo i z]; exact h1) h2
      omega
  · have := ((pn v).mp h).2
    omega
end TA
