/-! THE MODEL READS PROGRAMS: one command -/
section RO9
variable {h g g0 g1 g2 : AH} {T : List Nat} {i s c k m a j : Nat} {ok : Bool} {l F : List Nat}
/-- behind the form F, read from i on; its numbers are noted from place 1 on -/
def NMS (T : List Nat) (g0 : AH) (c i : Nat) (F : List Nat) (g : AH) : Prop := mf [612] [23, 26] g0 g ∧ rdS T (mtF T F i).1 c (mtF T F i).2.1 g ∧ (∀ q, q < 4 * c + 1 → mI g 612 q = mI g0 612 q) ∧ ((mtF T F i).2.1 = true → ∀ q v, (mtF T F i).2.2[q]? = some v → mI g 612 (4 * c + 1 + q) = nI v)
theorem wld_l (hq : (a, l) ∈ wds) (m : Nat) : wld (l ++ [sgW m]) = 1 := by
  obtain ⟨-, -, hcs⟩ := wds_ok _ hq
  unfold wld
  rw [List.countP_append, List.countP_eq_zero.mpr (fun d hd => by
    obtain ⟨h1, h2, -⟩ := hcs d hd
    simp [h1, h2])]
  unfold sgW
  split <;> decide
theorem nms_step (n : NMS T g0 c i F g) (hF : wld F = j) (hj : j < 3) (hq : (a, l) ∈ wds) (hm : m = 1 ∨ m = 3) (hc : c < 13) (hi : i ≤ T.length) {K : AH → Prop} (kk : ∀ g', NMS T g0 c i (F ++ (l ++ [sgW m])) g' → K g') : wX10_number 606 a (nI (j + 1)) (nI m) g K := by
  obtain ⟨n1, n2, n3, n4⟩ := n
  have hin := mt_in (T := T) F i hi
  have ap := mt_app (T := T) F (l ++ [sgW m]) i
  cases ho : (mtF T F i).2.1 with
  | false =>
    rw [ho] at n2
    rw [ho, if_neg (by decide)] at ap
    refine m_number_w hq n2 hc (by omega) (fun g' h1 h2 => kk g' ⟨n1.tr h1.1, ?_, fun q hq2 => ?_, fun z => ?_⟩)
    · rw [ap, ho]; exact h2
    · rw [h1.2 q (by omega)]; exact n3 q hq2
    · rw [ap, ho] at z; cases z
  | true =>
    rw [ho] at n2
    rw [ho, if_pos rfl] at ap
    have hl1 := mt_wl (T := T) F i ho
    refine m_number hq hin n2 hc (by omega) hm (fun g' h1 h2 h3 => kk g' ⟨n1.tr h1.1, ?_, fun q hq2 => ?_, fun z q v hv => ?_⟩)
    · rw [ap]; exact h2
    · rw [h1.2 q (by omega)]; exact n3 q hq2
    · rw [ap] at z hv
      have hl2 := mt_wl (T := T) (l ++ [sgW m]) (mtF T F i).1 z
      rw [wld_l hq] at hl2
      by_cases y : q < j
      · have hv : ((mtF T F i).2.2 ++ (mtF T (l ++ [sgW m]) (mtF T F i).1).2.2)[q]? = some v := hv
        rw [List.getElem?_append_left (by omega)] at hv
        rw [h1.2 _ (by omega)]
        exact n4 ho q v hv
      · have hv : ((mtF T F i).2.2 ++ (mtF T (l ++ [sgW m]) (mtF T F i).1).2.2)[q]? = some v := hv
        rw [List.getElem?_append_right (by omega)] at hv
        have hb := (List.getElem?_eq_some_iff.mp hv).1
        have hqj : q = j := by omega
        subst hqj
        have h0 : q - (mtF T F i).2.2.length = 0 := by omega
        rw [h0] at hv
        rw [show 4 * c + 1 + q = 4 * c + (q + 1) by omega]
        refine h3 v z ?_
        match hz : (mtF T (l ++ [sgW m]) (mtF T F i).1).2.2, hl2, hv with
        | [u], _, hv => 
          have : u = v := by simpa using hv
          rw [this]
def cdE (k : Nat) : Nat := match k with
  | 0 => 98
  | 1 => 112
  | 2 => 108
  | 3 => 116
  | 4 => 115
  | 5 => 102
  | 6 => 215
  | 7 => 111
  | 8 => 216
  | _ => 119
/-- what is told of a command that was read -/
def tld (g : AH) (c k : Nat) (ns : List Nat) : Prop := mI g 612 (4 * c) = nI (cdE k) ∧ (k = 9 → mI g 612 (4 * c + 1) = nI 1) ∧ ∀ q v, ns[q]? = some v → mI g 612 (4 * c + 1 + q) = nI v
def rdO (T : List Nat) (s c : Nat) (h g : AH) : Prop := mf [612] [23, 25, 26] h g ∧ rdS T (rd1 T s).1 (c + 1) (rd1 T s).2.isSome g ∧ (∀ q, q < 4 * c → mI g 612 q = mI h 612 q) ∧ ∀ k ns, (rd1 T s).2 = some (k, ns) → tld g c k ns
theorem m_J324 (b : rdS T i c ok g2) (c12 : mf [612] [23, 26] g g2) (hr : rd1 T s = (i, (rd1 T s).2)) (ho : ok = (rd1 T s).2.isSome) (hlo : ∀ q, q < 4 * c → mI g2 612 q = mI g 612 q) (ht : ∀ k ns, (rd1 T s).2 = some (k, ns) → tld g2 c k ns) {K : AH → Prop} (kk : ∀ g', rdO T s c g g' → K g') : wX10_readsOne_J324 K 606 g2 := by
  obtain ⟨b1, b2, b3, b4⟩ := b
  unfold wX10_readsOne_J324
  refine ⟨b1.1.o, fun g3 e3 => kk g3 ?_⟩
  have f3 : mf [612] [23, 25, 26] g2 g3 := by rw [e3]; exact mf.uf (by decide)
  have o3 : mI g3 612 = mI g2 612 := by rw [e3, mI_o (by decide)]
  refine ⟨(c12.mo (fun _ h => h) (by decide)).tr f3, ⟨b1.fr f3 (by decide), ?_, ?_, ?_⟩, fun q hq => by rw [o3]; exact hlo q hq, fun k ns h => ?_⟩
  · rw [hr, e3, mI_uI, if_neg (by omega)]; exact b2
  · rw [e3, mI_uI, if_pos ⟨rfl, rfl⟩, b3, nI_add]
  · rw [← ho, e3, mI_uI, if_neg (by omega)]; exact b4
  · unfold tld
    rw [o3]
    exact ht k ns h
theorem nms_fin (n : NMS T g1 c s (frm k) g2) (hs : sel T s = some k) (h9 : k < 9) (e1 : g1 = uI g 612 (4 * c) (nI (cdE k))) {K : AH → Prop} (kk : ∀ g', rdO T s c g g' → K g') : wX10_readsOne_J324 K 606 g2 := by
  obtain ⟨n1, n2, n3, n4⟩ := n
  have f1 : mf [612] [23, 26] g g1 := by rw [e1]; exact mf.ui (by decide) (by decide)
  have er := rd1_k hs (by omega)
  have lo : ∀ q, q < 4 * c → mI g2 612 q = mI g 612 q := fun q hq => by rw [n3 q (by omega), e1, mI_uI, if_neg (by omega)]
  cases ho : (mtF T (frm k) s).2.1 with
  | true =>
    rw [ho, if_pos rfl] at er
    rw [ho] at n2
    refine m_J324 n2 (f1.tr n1) (s := s) (by rw [er]) (by rw [er]; rfl) lo (fun k' ns h => ?_) kk
    rw [er] at h
    cases h
    refine ⟨by rw [n3 _ (by omega), e1, mI_uI, if_pos ⟨rfl, rfl⟩], fun z => by omega, fun q v hv => n4 ho q v hv⟩
  | false =>
    rw [ho, if_neg (by decide)] at er
    rw [ho] at n2
    refine m_J324 n2 (f1.tr n1) (s := s) (by rw [er]) (by rw [er]; rfl) lo (fun k' ns h => ?_) kk
    rw [er] at h
    cases h
theorem mt_nwl : ∀ (F : List Nat) (i : Nat), (∀ c ∈ F, c ≠ 35 ∧ c ≠ 42) → (mtF T F i).2.1 = true → (mtF T F i).1 = i + F.length := by
  intro F
  induction F with
  | nil => intro i _ _; rfl
  | cons c F ih =>
    intro i h ho
    obtain ⟨h1, h2⟩ := h c List.mem_cons_self
    by_cases z : T[i]? = some c
    · rw [mt_eq h1 h2 z] at ho ⊢
      rw [ih (i + 1) (fun d hd => h d (List.mem_cons_of_mem _ hd)) ho, List.length_cons]
      omega
    · rw [mt_ne h1 h2 z] at ho
      cases ho
theorem m_readsWait (hs : sel T s = some 10) (b : rdS T s c true g1) (hi : s ≤ T.length) (hc : c < 13) (e1 : g1 = uI g 612 (4 * c) (nI 119)) {K : AH → Prop} (kk : ∀ g', rdO T s c g g' → K g') : wX10_readsWait 606 g1 (fun h => wX10_readsOne_J324 K 606 h) := by
  have hq : ((34, [119, 97, 105, 116]) : Nat × List Nat) ∈ wds := by decide
  have hq2 : ((60, [32]) : Nat × List Nat) ∈ wds := by decide
  have nz12 : (nZ ≤ 612) = True := eq_true (by decide)
  have hnw : ∀ d ∈ [119, 97, 105, 116], d ≠ 35 ∧ d ≠ 42 := by decide
  have f1 : mf [612] [23, 26] g g1 := by rw [e1]; exact mf.ui (by decide) (by decide)
  have er : rd1 T s = if (mtF T (frm 10) s).2.1 = true then ((mtF T (frm 10) s).1, some (10, (mtF T (frm 10) s).2.2)) else if (mtF T (frm 9) s).2.1 = true ∧ T[s + 4]? ≠ some 32 then (s + 4, some (9, [])) else ((mtF T (frm 10) s).1, none) := by
    unfold rd1
    rw [hs]
    simp only
    split
    · rfl
    · by_cases z : (mtF T (frm 9) s).2.1 = true ∧ T[s + 4]? ≠ some 32
      · rw [if_pos ⟨trivial, z⟩, if_pos z]
      · rw [if_neg (fun y => z y.2), if_neg z]
  have f9 : frm 9 = [119, 97, 105, 116] := rfl
  have f10 : frm 10 = [119, 97, 105, 116] ++ ([32] ++ [sgW 3]) := rfl
  have ap := mt_app (T := T) [119, 97, 105, 116] ([32] ++ [sgW 3]) s
  unfold wX10_readsWait
  refine ⟨b.1.1.o, m_says hq hi b (fun g2 c2 b2 => ?_)⟩
  obtain ⟨d1, d2, d3, d4⟩ := id b2
  have s2 := d1.1
  rw [d3]
  simp (disch := omega) only [s2.o, s2.r8, s2.a12, s2.l12, nz12, nI_add, pk_mul, nI_clamp, nI_leI, nI_ltI, nI_eq, vp_in_nI, true_and]
  intro g3 e3
  have f2 : mf [612] [23, 26] g1 g2 := c2.mo (by decide) (fun _ h => h)
  have f3 : mf [612] [23, 26] g2 g3 := by rw [e3]; exact mf.ui (by decide) (by decide)
  have f13 := f1.tr (f2.tr f3)
  have b3 : rdS T (mtF T [119, 97, 105, 116] s).1 c (mtF T [119, 97, 105, 116] s).2.1 g3 := ⟨d1.fr f3 (by decide), by rw [e3, mI_o (by decide)]; exact d2, by rw [e3, mI_o (by decide)]; exact d3, by rw [e3, mI_o (by decide)]; exact d4⟩
  have lo : ∀ q, q < 4 * c → mI g3 612 q = mI g 612 q := fun q hq => by rw [e3, mI_uI, if_neg (by omega), c2.c (by decide) (by decide), e1, mI_uI, if_neg (by omega)]
  have t0 : mI g3 612 (4 * c) = nI 119 := by rw [e3, mI_uI, if_neg (by omega), c2.c (by decide) (by decide), e1, mI_uI, if_pos ⟨rfl, rfl⟩]
  have t1 : mI g3 612 (4 * c + 1) = nI 1 := by rw [e3, mI_uI, if_pos ⟨rfl, rfl⟩]
  cases ho : (mtF T [119, 97, 105, 116] s).2.1 with
  | false =>
    rw [ho] at b3
    rw [ho, if_neg (by decide)] at ap
    rw [f9, f10, ap, ho, if_neg (by decide), if_neg (fun z => by cases z.1)] at er
    refine ⟨fun _ => m_J324 b3 f13 (s := s) (by rw [er]) (by rw [er]; rfl) lo (fun k ns h => ?_) kk, fun z => ?_⟩
    · rw [er] at h; cases h
    · rw [b3.2.2.2] at z; exact absurd z (by decide)
  | true =>
    rw [ho] at b3
    rw [ho, if_pos rfl] at ap
    have hn := mt_nwl (T := T) _ s hnw ho
    have hn : (mtF T [119, 97, 105, 116] s).1 = s + 4 := hn
    have hin := mt_in (T := T) [119, 97, 105, 116] s hi
    have h60 := b3.1.2.2.2.1
    refine ⟨fun z => absurd b3.2.2.2 z, fun _ => m_here (m := 0) b3.1 b3.2.1 (by omega) (by decide) ?_⟩
    rw [Nat.add_zero, hn, oI_c b3.1 (by decide)]
    refine ⟨fun z => ?_, fun z => ⟨b3.1.1.o, ?_⟩⟩
    · have hne : mtF T ([32] ++ [sgW 3]) (mtF T [119, 97, 105, 116] s).1 = (s + 4, false, []) := by
        rw [hn]
        exact mt_ne (by decide) (by decide) z
      rw [hne] at ap
      rw [f9, f10, ap, ho, if_neg (by simp), if_pos ⟨rfl, z⟩] at er
      rw [hn] at b3
      refine m_J324 b3 f13 (s := s) (by rw [er]) (by rw [er]; rfl) lo (fun k ns h => ?_) kk
      rw [er] at h
      cases h
      exact ⟨t0, fun _ => t1, fun q v hv => by simp at hv⟩
    · refine nms_step (T := T) (g0 := g3) (c := c) (i := s) (F := [119, 97, 105, 116]) (j := 0) (m := 3) ⟨mf.rf _ _ _, by rw [ho]; exact b3, fun _ _ => rfl, fun _ q v hv => ?_⟩ rfl (by decide) hq2 (Or.inr rfl) hc hi (fun g4 n => ?_)
      · rw [mt_nw _ _ hnw] at hv
        simp at hv
      · obtain ⟨n1, n2, n3, n4⟩ := n
        have lo4 : ∀ q, q < 4 * c → mI g4 612 q = mI g 612 q := fun q hq => by rw [n3 q (by omega), lo q hq]
        rw [← f10] at n2 n4
        cases ho2 : (mtF T (frm 10) s).2.1 with
        | true =>
          rw [ho2] at n2
          rw [ho2, if_pos rfl] at er
          refine m_J324 n2 (f13.tr n1) (s := s) (by rw [er]) (by rw [er]; rfl) lo4 (fun k ns h => ?_) kk
          rw [er] at h
          cases h
          exact ⟨by rw [n3 _ (by omega)]; exact t0, fun z => (by cases z), fun q v hv => n4 ho2 q v hv⟩
        | false =>
          rw [ho2] at n2
          rw [ho2, if_neg (by decide), if_neg (fun y => y.2 z)] at er
          refine m_J324 n2 (f13.tr n1) (s := s) (by rw [er]) (by rw [er]; rfl) lo4 (fun k ns h => ?_) kk
          rw [er] at h
          cases h
theorem w_38 : ((38, [98, 108, 111, 99, 107, 32]) : Nat × List Nat) ∈ wds := by decide
theorem w_40 : ((40, [112, 111, 105, 110, 116, 32]) : Nat × List Nat) ∈ wds := by decide
theorem w_42 : ((42, [62]) : Nat × List Nat) ∈ wds := by decide
theorem w_44 : ((44, [44]) : Nat × List Nat) ∈ wds := by decide
theorem w_46 : ((46, [108, 105, 110, 107, 32]) : Nat × List Nat) ∈ wds := by decide
theorem w_48 : ((48, [116, 104, 114, 111, 119, 32]) : Nat × List Nat) ∈ wds := by decide
theorem w_50 : ((50, [116, 114, 97, 105, 110, 32]) : Nat × List Nat) ∈ wds := by decide
theorem w_52 : ((52, [115, 104, 117, 116, 32]) : Nat × List Nat) ∈ wds := by decide
theorem w_54 : ((54, [115, 101, 116, 32]) : Nat × List Nat) ∈ wds := by decide
theorem w_56 : ((56, [102, 114, 101, 101, 32]) : Nat × List Nat) ∈ wds := by decide
theorem w_58 : ((58, [111, 112, 101, 110, 32]) : Nat × List Nat) ∈ wds := by decide
theorem m_J56 (b : rdS T s c true g) (hi : s ≤ T.length) (hc : c < 13) {o : Bool} (ho : o = true ↔ T[s + 1]? = some 104 ∧ (T[s]? = some 115 ∨ T[s]? = some 116)) {K : AH → Prop} (kk : ∀ g', rdO T s c g g' → K g') : wX10_readsOne_J56 K 606 (oI T[s]?) (nI (if o = true then 1 else 0)) 612 (nI (4 * c)) (if o = true then oI T[s]? + nI 100 else oI T[s]?) g := by
  obtain ⟨d1, d2, d3, d4⟩ := id b
  have s' := d1.1
  have nz12 : (nZ ≤ 612) = True := eq_true (by decide)
  unfold wX10_readsOne_J56
  simp (disch := omega) only [s'.o, s'.a12, s'.l12, nz12, nI_add, pk_mul, nI_clamp, nI_leI, nI_ltI, nI_eq, vp_in_nI, true_and]
  intro g1 e1
  have f1 : mf [612] [23, 26] g g1 := by rw [e1]; exact mf.ui (by decide) (by decide)
  have b1 : rdS T s c true g1 := ⟨d1.fr f1 (by decide), by rw [e1, mI_o (by decide)]; exact d2, by rw [f1.f (by decide)]; exact d3, by rw [e1, mI_o (by decide)]; exact d4⟩
  have base : NMS T g1 c s [] g1 := ⟨mf.rf _ _ _, b1, fun _ _ => rfl, fun _ q v hv => by simp [mtF] at hv⟩
  have oF : ∀ d, T[s]? = some d → d ≠ 115 → d ≠ 116 → o = false := fun d hd h1 h2 => by
    cases o with
    | false => rfl
    | true =>
      rcases (ho.mp rfl).2 with z | z
      · rw [hd] at z; cases z; exact absurd rfl h1
      · rw [hd] at z; cases z; exact absurd rfl h2
  have cd : ∀ d k, T[s]? = some d → o = false → cdE k = d → g1 = uI g 612 (4 * c) (nI (cdE k)) := fun d k hd h1 h2 => by rw [e1, h1, if_neg (by decide), hd, oI_some, h2]
  have cdo : ∀ d k, T[s]? = some d → o = true → cdE k = d + 100 → g1 = uI g 612 (4 * c) (nI (cdE k)) := fun d k hd h1 h2 => by rw [e1, h1, if_pos rfl, hd, oI_some, nI_add, h2]
  rw [oI_c d1 (by decide), oI_c d1 (by decide), oI_c d1 (by decide), oI_c d1 (by decide), oI_c d1 (by decide), oI_c d1 (by decide), oI_c d1 (by decide), oI_c d1 (by decide)]
  refine ⟨fun z => ?_, fun z => ?_, fun z => ?_, fun z => ?_, fun z => ?_, fun z => ?_, fun z => ?_, fun z => ?_, fun z g2 e2 => ?_⟩
  · have hs : sel T s = some 0 := by unfold sel; rw [z]; rfl
    exact nms_step (j := 0) base rfl (by decide) w_38 (Or.inl rfl) hc hi (fun g2 n => nms_fin (k := 0) n hs (by decide) (cd _ 0 z (oF _ z (by decide) (by decide)) rfl) kk)
  · have hs : sel T s = some 5 := by unfold sel; rw [z]; rfl
    exact nms_step (j := 0) base rfl (by decide) w_56 (Or.inr rfl) hc hi (fun g2 n => nms_fin (k := 5) n hs (by decide) (cd _ 5 z (oF _ z (by decide) (by decide)) rfl) kk)
  · have hs : sel T s = some 2 := by unfold sel; rw [z]; rfl
    exact nms_step (j := 0) base rfl (by decide) w_46 (Or.inr rfl) hc hi (fun g2 n => ⟨n.2.1.1.1.o, nms_step (j := 1) n rfl (by decide) w_42 (Or.inr rfl) hc hi (fun g3 n => nms_fin (k := 2) n hs (by decide) (cd _ 2 z (oF _ z (by decide) (by decide)) rfl) kk)⟩)
  · have hs : sel T s = some 7 := by unfold sel; rw [z]; rfl
    exact nms_step (j := 0) base rfl (by decide) w_58 (Or.inr rfl) hc hi (fun g2 n => nms_fin (k := 7) n hs (by decide) (cd _ 7 z (oF _ z (by decide) (by decide)) rfl) kk)
  · have hs : sel T s = some 1 := by unfold sel; rw [z]; rfl
    exact nms_step (j := 0) base rfl (by decide) w_40 (Or.inr rfl) hc hi (fun g2 n => ⟨n.2.1.1.1.o, nms_step (j := 1) n rfl (by decide) w_42 (Or.inr rfl) hc hi (fun g3 n => ⟨n.2.1.1.1.o, nms_step (j := 2) n rfl (by decide) w_44 (Or.inr rfl) hc hi (fun g4 n => nms_fin (k := 1) n hs (by decide) (cd _ 1 z (oF _ z (by decide) (by decide)) rfl) kk)⟩)⟩)
  · cases hoo : o with
    | true =>
      have hs : sel T s = some 6 := by unfold sel; rw [z]; simp only; rw [if_pos (ho.mp hoo).1]
      refine ⟨fun y => absurd y (by decide), fun _ => ?_⟩
      exact nms_step (j := 0) base rfl (by decide) w_52 (Or.inr rfl) hc hi (fun g2 n => nms_fin (k := 6) n hs (by decide) (cdo _ 6 z hoo rfl) kk)
    | false =>
      have hs : sel T s = some 4 := by unfold sel; rw [z]; simp only; rw [if_neg (fun y => by rw [ho.mpr ⟨y, Or.inl z⟩] at hoo; cases hoo)]
      refine ⟨fun _ => ?_, fun y => absurd rfl y⟩
      exact nms_step (j := 0) base rfl (by decide) w_54 (Or.inr rfl) hc hi (fun g2 n => nms_fin (k := 4) n hs (by decide) (cd _ 4 z hoo rfl) kk)
  · cases hoo : o with
    | true =>
      have hs : sel T s = some 8 := by unfold sel; rw [z]; simp only; rw [if_pos (ho.mp hoo).1]
      refine ⟨fun y => absurd y (by decide), fun _ => ?_⟩
      exact nms_step (j := 0) base rfl (by decide) w_48 (Or.inl rfl) hc hi (fun g2 n => nms_fin (k := 8) n hs (by decide) (cdo _ 8 z hoo rfl) kk)
    | false =>
      have hs : sel T s = some 3 := by unfold sel; rw [z]; simp only; rw [if_neg (fun y => by rw [ho.mpr ⟨y, Or.inr z⟩] at hoo; cases hoo)]
      refine ⟨fun _ => ?_, fun y => absurd rfl y⟩
      exact nms_step (j := 0) base rfl (by decide) w_50 (Or.inr rfl) hc hi (fun g2 n => ⟨n.2.1.1.1.o, nms_step (j := 1) n rfl (by decide) w_42 (Or.inr rfl) hc hi (fun g3 n => nms_fin (k := 3) n hs (by decide) (cd _ 3 z hoo rfl) kk)⟩)
  · have hs : sel T s = some 10 := by unfold sel; rw [z]; rfl
    exact m_readsWait hs b1 hi hc (cd _ 9 z (oF _ z (by decide) (by decide)) rfl) kk
  · have hs : sel T s = none := by
      obtain ⟨z1, z2, z3, z4, z5, z6, z7, z8⟩ := z
      unfold sel
      split
      · rename_i y; exact absurd y z1
      · rename_i y; exact absurd y z5
      · rename_i y; exact absurd y z3
      · rename_i y; exact absurd y z7
      · rename_i y; exact absurd y z6
      · rename_i y; exact absurd y z2
      · rename_i y; exact absurd y z4
      · rename_i y; exact absurd y z8
      · rfl
    have er : rd1 T s = (s, none) := by unfold rd1; rw [hs]
    have f2 : mf [612] [23, 26] g1 g2 := by rw [e2]; exact mf.uf (by decide)
    refine m_J324 (ok := false) (i := s) ⟨b1.1.fr f2 (by decide), by rw [e2, mI_uI, if_neg (by omega)]; exact b1.2.1, by rw [f2.f (by decide)]; exact b1.2.2.1, by rw [e2, mI_uI, if_pos ⟨rfl, rfl⟩]; rfl⟩ (f1.tr f2) (s := s) (by rw [er]) (by rw [er]; rfl) (fun q hq => by rw [e2, mI_o (by decide), e1, mI_uI, if_neg (by omega)]) (fun k ns h => ?_) kk
    rw [er] at h; cases h
theorem m_readsOne (b : rdS T s c true g) (hi : s ≤ T.length) (hc : c < 13) {K : AH → Prop} (kk : ∀ g', rdO T s c g g' → K g') : wX10_readsOne 606 g K := by
  obtain ⟨d1, d2, d3, d4⟩ := id b
  have s' := d1.1
  have h60 := d1.2.2.2.1
  have j33 : ∀ o : Bool, (o = true ↔ T[s + 1]? = some 104 ∧ (T[s]? = some 115 ∨ T[s]? = some 116)) → wX10_readsOne_J33 K 606 (oI T[s]?) (nI (if o = true then 1 else 0)) g := fun o ho => by
    have := m_J56 b hi hc ho kk
    unfold wX10_readsOne_J33
    rw [d3, s'.r8, pk_mul]
    cases o with
    | true => exact ⟨s'.o, fun z => absurd z (by decide), fun _ => this⟩
    | false => exact ⟨s'.o, fun _ => this, fun z => absurd rfl z⟩
  unfold wX10_readsOne
  refine ⟨s'.o, m_here (m := 0) d1 d2 (by omega) (by decide) ⟨s'.o, m_here (m := 1) d1 d2 (by omega) (by decide) ?_⟩⟩
  rw [Nat.add_zero, oI_c d1 (by decide), oI_c d1 (by decide), oI_c d1 (by decide)]
  refine ⟨fun z => ?_, fun z => ⟨fun z2 => ?_, fun z2 => ⟨fun z3 => ?_, fun z3 => ?_⟩⟩⟩
  · unfold wX10_readsOne_J32
    exact j33 false ⟨fun y => (by cases y), fun y => absurd y.1 z⟩
  · unfold wX10_readsOne_J28
    exact j33 true ⟨fun _ => ⟨z, Or.inl z2⟩, fun _ => rfl⟩
  · unfold wX10_readsOne_J32
    exact j33 false ⟨fun y => (by cases y), fun y => absurd y.2 (fun u => u.elim z2 z3)⟩
  · unfold wX10_readsOne_J28
    exact j33 true ⟨fun _ => ⟨z, Or.inr z3⟩, fun _ => rfl⟩
end RO9
