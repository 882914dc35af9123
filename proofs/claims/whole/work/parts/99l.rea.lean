/-! THE MODEL READS PROGRAMS: words and numbers -/
/-- a text in the cells that were there before -/
def strA (h : AH) (a : Nat) (l : List Nat) : Prop := mS h a = (20, 0) ∧ mR h a 0 = a + 1 ∧ mI h a 1 = nI 0 ∧ mS h (a + 1) = (103, l.length) ∧ ∀ i c, l[i]? = some c → mI h (a + 1) i = nI c
def wds : List (Nat × List Nat) := [(38, [98, 108, 111, 99, 107, 32]), (40, [112, 111, 105, 110, 116, 32]), (42, [62]), (44, [44]), (46, [108, 105, 110, 107, 32]), (48, [116, 104, 114, 111, 119, 32]), (50, [116, 114, 97, 105, 110, 32]), (52, [115, 104, 117, 116, 32]), (54, [115, 101, 116, 32]), (56, [102, 114, 101, 101, 32]), (58, [111, 112, 101, 110, 32]), (34, [119, 97, 105, 116]), (60, [32])]
def stW (h : AH) : Prop := ∀ q ∈ wds, strA h q.1 q.2
theorem wds_ok : ∀ q ∈ wds, q.1 < 62 ∧ q.2.length < 10 ∧ ∀ c ∈ q.2, c ≠ 35 ∧ c ≠ 42 ∧ c < 128 := by decide
/-- the model reads T -/
def rdB (T : List Nat) (h : AH) : Prop := sM h ∧ (∀ i c, T[i]? = some c → mI h 611 i = nI c ∧ c < 65536) ∧ mI h 606 24 = nI T.length ∧ T.length ≤ 60 ∧ stW h
/-- .. it stands at i, behind c commands, all right or not -/
def rdS (T : List Nat) (i c : Nat) (ok : Bool) (g : AH) : Prop := rdB T g ∧ mI g 606 23 = nI i ∧ mI g 606 25 = nI c ∧ mI g 606 26 = nI (if ok = true then 0 else 1)
section RE9
variable {h g : AH} {T : List Nat} {i c k m a : Nat} {ok : Bool} {l : List Nat}
theorem strA.fr (t : strA h a l) {C F : List Nat} (c : mf C F h g) (h1 : a ≠ 606 ∧ a + 1 ≠ 606) (h2 : a ∉ C ∧ a + 1 ∉ C) : strA g a l := by
  unfold strA
  rw [c.2.1, c.2.2.1, c.c h1.1 h2.1, c.c h1.2 h2.2]
  exact t
theorem stW.fr (t : stW h) {C F : List Nat} (c : mf C F h g) (h2 : C.all (fun a => decide (606 ≤ a)) = true) : stW g := fun q hq => by
  have h1 := (wds_ok q hq).1
  have n : ∀ b, b < 63 → b ∉ C := fun b hb z => by
    have := of_decide_eq_true (List.all_eq_true.mp h2 b z)
    omega
  exact (t q hq).fr c ⟨by omega, by omega⟩ ⟨n _ (by omega), n _ (by omega)⟩
theorem rdB.fr (b : rdB T h) {F : List Nat} (c : mf [612] F h g) (h24 : 24 ∉ F) : rdB T g := by
  obtain ⟨b1, b2, b3, b4, b5⟩ := b
  exact ⟨c.s b1, fun i d hd => by rw [c.c (by decide) (by decide)]; exact b2 i d hd, by rw [c.f h24]; exact b3, b4, b5.fr c (by decide)⟩
theorem m_len (t : strA h a l) (ha : a < 62) (hl : l.length < 10) {K : Int32 → AH → Prop} (kk : K (nI l.length) h) : wJ0_length_8abf5 a h K := by
  obtain ⟨k5, k6, k7, k8, k9⟩ := t
  unfold wJ0_length_8abf5 wJ0_coder_7d493
  rw [k6, k7]
  refine ⟨k5, by show a < 64; omega, congrArg Prod.fst k8, fun z => absurd z (by rw [n1_ne]; exact id), fun _ => ⟨k5, by show a < 64; omega, by decide, ?_⟩⟩
  have : ln h (a + 1) = l.length := congrArg Prod.snd k8
  rw [this]
  dsimp only
  rw [(shl0 _ (by omega)).2]
  exact kk
theorem m_chr (t : strA h a l) (ha : a < 62) (hl : l.length < 10) {x c : Nat} (hx : l[x]? = some c) (hc : c < 128) {K : Int32 → AH → Prop} (kk : K (nI c) h) : wJ0_charAt_5068e a (nI x) h K := by
  obtain ⟨k5, k6, k7, k8, k9⟩ := t
  have hx2 := (List.getElem?_eq_some_iff.mp hx).1
  have l1 : ln h (a + 1) = l.length := congrArg Prod.snd k8
  unfold wJ0_charAt_5068e wJ0_isLatin1_aae02 wJ1_charAt_3b067 wJ0_checkIndex_df160
  dsimp only
  rw [k6, k7, l1]
  have z1 : a < nZ := by show a < 64; omega
  refine ⟨k5, z1, fun z => absurd z (by rw [n1_ne]; exact id), fun _ => ⟨k5, z1, fun z => absurd rfl z, fun _ => ⟨fun z => absurd z (by rw [n1_ne]; exact id), fun _ => ⟨k5, z1, congrArg Prod.fst k8, fun k1 _ => ?_⟩⟩⟩⟩
  unfold wJ3_checkIndex_8e157
  refine ⟨fun z => absurd z (by rw [lt0_f (by omega)]; exact id), fun _ => ⟨fun _ => ⟨congrArg Prod.fst k8, ?_, ?_, ?_⟩, fun z => absurd (nI_lt hx2 (by omega)) z⟩⟩
  · rw [l1]; exact vp_in_nI hx2 (by omega)
  · rw [nI_clamp (by omega), k9 x c hx, (byt_c c hc).2.2.2]; exact (ch_ok c hc).1
  · rw [nI_clamp (by omega), k9 x c hx, (byt_c c hc).2.2.2]; exact ⟨(ch_ok c hc).1, kk⟩
theorem m_here (b : rdB T g) (e : mI g 606 23 = nI i) (hi : i ≤ 60) (hm : m < 2) {K : Int32 → AH → Prop} (kk : K (oI T[i + m]?) g) : wX10_here 606 (nI m) g K := by
  obtain ⟨s, b2, b3, b4, b5⟩ := b
  unfold wX10_here
  rw [e, b3, nI_add]
  refine ⟨s.o, ?_⟩
  by_cases z : T.length ≤ i + m
  · rw [List.getElem?_eq_none z] at kk
    rw [nI_leI (by omega) (by omega)]
    exact ⟨fun _ => kk, fun y => absurd z y⟩
  · have hc : T[i + m]? = some T[i + m] := List.getElem?_eq_getElem (by omega)
    rw [hc, oI_some, ← (b2 _ _ hc).1] at kk
    simp (disch := omega) only [s.r7, s.a11, s.l11, nI_add, pk_mul, nI_clamp, nI_leI, nI_ltI, nI_eq, vp_in_nI, true_and]
    exact ⟨fun y => absurd y z, fun _ => kk⟩
theorem oI_c (b : rdB T g) {x d : Nat} (hd : d < 128) : (oI T[x]? = nI d) = (T[x]? = some d) := by
  obtain ⟨s, b2, b3, b4, b5⟩ := b
  cases hx : T[x]? with
  | none => rw [oI_none, m_ne (by omega)]; simp
  | some e =>
    have := (b2 _ _ hx).2
    rw [oI_some, nI_eq (by omega) (by omega)]
    simp
theorem bool_f : (narrow .boolean (.int (nI 0)) = .int (nI 0) ∧ fits .boolean (.int (nI 0)) = true) ∧ (narrow .boolean (.int (nI 1)) = .int (nI 1) ∧ fits .boolean (.int (nI 1)) = true) := by decide
theorem m_says_w (b : rdS T i c false g) (t : strA g a l) (ha : a < 62) (hl : l.length < 10) {K : AH → Prop} (kk : K g) : wX10_says 606 a g K := by
  obtain ⟨b1, b2, b3, b4⟩ := b
  refine ⟨1, ?_⟩
  rw [wX10_says_L2]; dsimp only
  refine ⟨t.1, by show a < 64; omega, m_len t ha hl ⟨fun _ => kk, fun _ => ⟨b1.1.o, fun _ => kk, fun z => ?_⟩⟩⟩
  rw [b4] at z
  exact absurd z (by decide)
theorem m_says_l (hq : (a, l) ∈ wds) {K : AH → Prop} : ∀ n x i g, x + n = l.length → i ≤ T.length → rdS T i c true g → (∀ g', mf [] [23, 26] g g' → rdS T (mtF T (l.drop x) i).1 c (mtF T (l.drop x) i).2.1 g' → K g') → wX10_says_L2 K (n + 2) 606 a (nI x) g := by
  obtain ⟨ha, hl, hc⟩ := wds_ok _ hq
  have ha : a < 62 := ha
  have hl : l.length < 10 := hl
  intro n
  induction n with
  | zero =>
    intro x i g hx hi b kk
    have t : strA g a l := b.1.2.2.2.2 _ hq
    have hx' : x = l.length := hx
    rw [hx', List.drop_length] at kk
    rw [wX10_says_L2]; dsimp only
    refine ⟨t.1, by show a < 64; omega, m_len t ha hl ⟨fun _ => kk g (mf.rf _ _ _) b, fun z => absurd (nI_le (by omega) (by omega)) z⟩⟩
  | succ n ih =>
    intro x i g hx hi b kk
    have t : strA g a l := b.1.2.2.2.2 _ hq
    obtain ⟨b1, b2, b3, b4⟩ := id b
    have h60 := b1.2.2.2.1
    have hxl : x < l.length := by omega
    have hcx : l[x]? = some l[x] := List.getElem?_eq_getElem hxl
    obtain ⟨c1, c2, c3⟩ := hc l[x] (List.getElem_mem hxl)
    rw [List.drop_eq_getElem_cons hxl] at kk
    rw [wX10_says_L2]; dsimp only
    refine ⟨t.1, by show a < 64; omega, m_len t ha hl ⟨fun z => absurd z (nI_ge hxl (by omega)), fun _ => ⟨b1.1.o, fun z => absurd b4 z, fun _ => m_here (m := 0) b1 b2 (by omega) (by decide) ⟨t.1, by show a < 64; omega, m_chr t ha hl hcx c3 ?_⟩⟩⟩⟩
    rw [Nat.add_zero, oI_c b1 c3]
    refine ⟨fun z => ?_, fun z => ?_⟩
    · rw [mt_eq c1 c2 z] at kk
      have hlt := (List.getElem?_eq_some_iff.mp z).1
      unfold wX10_says_J36 wX10_says_J56
      refine ⟨b1.1.o, bool_f.1.1, bool_f.1.2, fun g1 e1 => ⟨b1.1.o, fun _ => ⟨by rw [e1]; exact b1.1.o, fun g2 e2 => ?_⟩, fun z2 => absurd (by rw [e1, mI_uI, if_pos ⟨rfl, rfl⟩]) z2⟩⟩
      have f1 : mf [] [23, 26] g g1 := by rw [e1]; exact mf.uf (by decide)
      have f2 : mf [] [23, 26] g1 g2 := by rw [e2]; exact mf.uf (by decide)
      have f12 := f1.tr f2
      have e23 : mI g1 606 23 = nI i := by rw [e1, mI_uI, if_neg (by omega)]; exact b2
      rw [nI_add]
      refine ih (x + 1) (i + 1) g2 (by omega) (by omega) ⟨b1.fr (f12.mo (by decide) (fun _ h => h)) (by decide), ?_, ?_, ?_⟩ (fun g' c' q' => kk g' (f12.tr c') q')
      · rw [e2, mI_uI, if_pos ⟨rfl, rfl⟩, e23, nI_add]
      · rw [f12.f (by decide)]; exact b3
      · rw [e2, mI_uI, if_neg (by omega), e1, mI_uI, if_pos ⟨rfl, rfl⟩]; rfl
    · rw [mt_ne c1 c2 z] at kk
      unfold wX10_says_J36 wX10_says_J56
      refine ⟨b1.1.o, bool_f.2.1, bool_f.2.2, fun g1 e1 => ⟨b1.1.o, fun z2 => ?_, fun _ => ⟨by rw [e1]; exact b1.1.o, fun g2 e2 => ?_⟩⟩⟩
      · rw [e1, mI_uI, if_pos ⟨rfl, rfl⟩] at z2
        exact absurd z2 (by decide)
      have f1 : mf [] [23, 26] g g1 := by rw [e1]; exact mf.uf (by decide)
      have f2 : mf [] [23, 26] g1 g2 := by rw [e2]; exact mf.uf (by decide)
      have f12 := f1.tr f2
      have e23 : mI g1 606 23 = nI i := by rw [e1, mI_uI, if_neg (by omega)]; exact b2
      have e26 : mI g2 606 26 = nI 1 := by rw [e2, mI_uI, if_neg (by omega), e1, mI_uI, if_pos ⟨rfl, rfl⟩]
      have q2 : rdS T i c false g2 := ⟨b1.fr (f12.mo (by decide) (fun _ h => h)) (by decide), by rw [e2, mI_uI, if_pos ⟨rfl, rfl⟩, e23, nI_add, Nat.add_zero], by rw [f12.f (by decide)]; exact b3, e26⟩
      have t2 : strA g2 a l := q2.1.2.2.2.2 _ hq
      rw [nI_add, wX10_says_L2]; dsimp only
      refine ⟨t2.1, by show a < 64; omega, m_len t2 ha hl ⟨fun _ => kk g2 f12 q2, fun _ => ⟨q2.1.1.o, fun _ => kk g2 f12 q2, fun z2 => ?_⟩⟩⟩
      rw [e26] at z2
      exact absurd z2 (by decide)
theorem m_says (hq : (a, l) ∈ wds) (hi : i ≤ T.length) (b : rdS T i c true g) {K : AH → Prop} (kk : ∀ g', mf [] [23, 26] g g' → rdS T (mtF T l i).1 c (mtF T l i).2.1 g' → K g') : wX10_says 606 a g K := ⟨l.length + 2, m_says_l hq l.length 0 i g (by omega) hi b (by rw [List.drop_zero]; exact kk)⟩
theorem in_dg (b : rdB T g) : (if oI T[i]? < nI 48 ∨ nI 57 < oI T[i]? then nI 0 else nI 1) = if isDg T i = true then nI 1 else nI 0 := by
  obtain ⟨s, b2, b3, b4, b5⟩ := b
  unfold isDg
  cases hx : T[i]? with
  | none =>
    rw [oI_none, if_pos (Or.inl (m_lt 48 (by decide)))]
    rfl
  | some e =>
    have := (b2 _ _ hx).2
    simp (disch := omega) only [oI_some, nI_ltI]
    by_cases z : e < 48 ∨ 57 < e
    · rw [if_pos z, if_neg (by simp; omega)]
    · rw [if_neg z, if_pos (by simp; omega)]
theorem m_digs_l {K : AH → Prop} {C : Nat → Int32 → Int32 → Int32 → AH → Prop} (hm : m ≤ 3) : ∀ n d i v g, d + n = m → i ≤ T.length → rdS T i c true g → (∀ g', mf [] [23, 26] g g' → rdS T (i + dgc T i n) c true g' → C 606 (nI k) (nI (vl T i (dgc T i n) v)) (nI (d + dgc T i n)) g') → wX10_number_L11 K C (n + 1) 606 (nI k) (nI m) (nI v) (nI d) g := by
  intro n
  induction n with
  | zero =>
    intro d i v g hd hi b kk
    rw [wX10_number_L11]; dsimp only
    refine ⟨b.1.1.o, fun z => absurd b.2.2.2 z, fun _ => ⟨fun _ => kk g (mf.rf _ _ _) b, fun z => absurd (nI_le (by omega) (by omega)) z⟩⟩
  | succ n ih =>
    intro d i v g hd hi b kk
    obtain ⟨b1, b2, b3, b4⟩ := id b
    have h60 := b1.2.2.2.1
    rw [dgc] at kk
    rw [wX10_number_L11]; dsimp only
    refine ⟨b1.1.o, fun z => absurd b4 z, fun _ => ⟨fun z => absurd z (nI_ge (by omega) (by omega)), fun _ => m_here (m := 0) b1 b2 (by omega) (by decide) ?_⟩⟩
    rw [Nat.add_zero, m_in, in_dg b1]
    by_cases e : isDg T i = true
    · rw [if_pos e] at kk ⊢
      refine ⟨fun z => absurd z (by decide), fun _ => ⟨b1.1.o, m_here (m := 0) b1 b2 (by omega) (by decide) ⟨b1.1.o, fun g2 e2 => ?_⟩⟩⟩
      have hlt := dg_lt e
      have hc : T[i]? = some T[i] := List.getElem?_eq_getElem hlt
      have hge : 48 ≤ T[i] := by
        unfold isDg at e
        rw [hc] at e
        simp only [Bool.and_eq_true, decide_eq_true_eq] at e
        exact e.1
      have f2 : mf [] [23, 26] g g2 := by rw [e2]; exact mf.uf (by decide)
      have q2 : rdS T (i + 1) c true g2 := ⟨b1.fr (f2.mo (by decide) (fun _ h => h)) (by decide), by rw [e2, mI_uI, if_pos ⟨rfl, rfl⟩, b2, nI_add], by rw [f2.f (by decide)]; exact b3, by rw [e2, mI_uI, if_neg (by omega)]; exact b4⟩
      rw [show i + 0 = i from rfl, hc, oI_some, pk_mul, nI_add, nI_sub (by omega), nI_add]
      refine ih (d + 1) (i + 1) _ g2 (by omega) (by omega) q2 (fun g' c' q' => ?_)
      have := kk g' (f2.tr c') (by rw [← Nat.add_assoc]; exact q')
      rw [Nat.add_comm 1 (dgc T (i + 1) n), vl, getD_s hc] at this
      rw [show 10 * v + T[i] - 48 = v * 10 + (T[i] - 48) by omega, show d + 1 + dgc T (i + 1) n = d + (dgc T (i + 1) n + 1) by omega]
      exact this
    · rw [if_neg e] at kk ⊢
      exact ⟨fun _ => kk g (mf.rf _ _ _) b, fun z => absurd rfl z⟩
/-- what noting a number may change -/
def nmF (g : AH) (p : Nat) (g' : AH) : Prop := mf [612] [23, 26] g g' ∧ ∀ q, q ≠ p → mI g' 612 q = mI g 612 q
theorem m_J89 (b : rdS T i c ok g) (hc : c < 13) (hk : k < 4) {v : Int32} {w : Nat} (hw : w < 2) {K : AH → Prop} (kk : ∀ g', nmF g (4 * c + k) g' → rdS T i c (decide (w = 0)) g' → mI g' 612 (4 * c + k) = v → K g') : wX10_number_J89 K 606 (nI k) v 606 (nI w) g := by
  obtain ⟨b1, b2, b3, b4⟩ := b
  have s := b1.1
  have nz12 : (nZ ≤ 612) = True := eq_true (by decide)
  have e25 : ∀ g1, g1 = uI g 606 26 (nI w) → mI g1 606 25 = nI c := fun g1 e1 => by rw [e1, mI_uI, if_neg (by omega)]; exact b3
  have hwb : narrow .boolean (.int (nI w)) = .int (nI w) ∧ fits .boolean (.int (nI w)) = true := by
    rcases (show w = 0 ∨ w = 1 by omega) with rfl | rfl
    · exact bool_f.1
    · exact bool_f.2
  unfold wX10_number_J89
  refine ⟨s.o, hwb.1, hwb.2, fun g1 e1 => ?_⟩
  rw [e25 g1 e1]
  simp (disch := omega) only [s.o, s.r8, s.a12, s.l12, nz12, nI_add, pk_mul, nI_clamp, nI_leI, nI_ltI, nI_eq, vp_in_nI, true_and]
  intro g2 e2
  have f1 : mf [612] [23, 26] g g1 := by rw [e1]; exact mf.uf (by decide)
  have f2 : mf [612] [23, 26] g1 g2 := by rw [e2]; exact mf.ui (by decide) (by decide)
  have f12 := f1.tr f2
  refine kk g2 ⟨f12, fun q hq => ?_⟩ ⟨b1.fr f12 (by decide), ?_, by rw [f12.f (by decide)]; exact b3, ?_⟩ ?_
  · rw [e2, mI_uI, if_neg (fun z => hq z.2), e1, mI_o (by decide)]
  · rw [e2, mI_o (by decide), e1, mI_uI, if_neg (by omega)]; exact b2
  · rw [e2, mI_o (by decide), e1, mI_uI, if_pos ⟨rfl, rfl⟩]
    rcases (show w = 0 ∨ w = 1 by omega) with rfl | rfl <;> rfl
  · rw [e2, mI_uI, if_pos ⟨rfl, rfl⟩]
theorem m_number_w (hq : (a, l) ∈ wds) (b : rdS T i c false g) (hc : c < 13) (hk : k < 4) {K : AH → Prop} (kk : ∀ g', nmF g (4 * c + k) g' → rdS T i c false g' → K g') : wX10_number 606 a (nI k) (nI m) g K := by
  obtain ⟨ha, hl, -⟩ := wds_ok _ hq
  have e26 : ¬ mI g 606 26 = nI 0 := by rw [b.2.2.2]; decide
  unfold wX10_number
  refine ⟨b.1.1.o, m_says_w b (b.1.2.2.2.2 _ hq) ha hl ⟨1, ?_⟩⟩
  rw [wX10_number_L11]; dsimp only
  refine ⟨b.1.1.o, fun _ => ⟨b.1.1.o, fun _ => ?_, fun z => absurd z e26⟩, fun z => absurd z e26⟩
  unfold wX10_number_J84
  exact m_J89 b hc hk (by decide) (fun g' h1 h2 _ => kk g' h1 h2)
theorem mt_app : ∀ (F G : List Nat) (i : Nat), mtF T (F ++ G) i = if (mtF T F i).2.1 = true then ((mtF T G (mtF T F i).1).1, (mtF T G (mtF T F i).1).2.1, (mtF T F i).2.2 ++ (mtF T G (mtF T F i).1).2.2) else mtF T F i := by
  intro F
  induction F with
  | nil => intro G i; rfl
  | cons c F ih =>
    intro G i
    rw [List.cons_append, mt_step, mt_step]
    by_cases e : tkn T c i = 0
    · rw [if_pos e, if_pos e, if_neg (by simp)]
    · rw [if_neg e, if_neg e, ih G (i + tkn T c i)]
      simp only
      split
      · simp only [List.append_assoc]
      · rfl
theorem mt_nw : ∀ (F : List Nat) (i : Nat), (∀ c ∈ F, c ≠ 35 ∧ c ≠ 42) → (mtF T F i).2.2 = [] := by
  intro F
  induction F with
  | nil => intro i _; rfl
  | cons c F ih =>
    intro i h
    obtain ⟨h1, h2⟩ := h c List.mem_cons_self
    have e2 : nts T c i = [] := by unfold nts; rw [if_neg (fun z => z.elim h1 h2)]
    rw [mt_step, e2]
    split
    · rfl
    · exact ih _ (fun d hd => h d (List.mem_cons_of_mem _ hd))
/-- the sign that stands for a number of at most m digits -/
def sgW (m : Nat) : Nat := if m = 1 then 35 else 42
theorem m_number (hq : (a, l) ∈ wds) (hi : i ≤ T.length) (b : rdS T i c true g) (hc : c < 13) (hk : k < 4) (hm : m = 1 ∨ m = 3) {K : AH → Prop} (kk : ∀ g', nmF g (4 * c + k) g' → rdS T (mtF T (l ++ [sgW m]) i).1 c (mtF T (l ++ [sgW m]) i).2.1 g' → (∀ v, (mtF T (l ++ [sgW m]) i).2.1 = true → (mtF T (l ++ [sgW m]) i).2.2 = [v] → mI g' 612 (4 * c + k) = nI v) → K g') : wX10_number 606 a (nI k) (nI m) g K := by
  obtain ⟨ha, hl, hcs⟩ := wds_ok _ hq
  have h60 := b.1.2.2.2.1
  have hnw := mt_nw (T := T) l i (fun d hd => ⟨(hcs d hd).1, (hcs d hd).2.1⟩)
  have hin := mt_in (T := T) l i hi
  have htk : ∀ j, tkn T (sgW m) j = dgc T j m := fun j => by
    rcases hm with rfl | rfl
    · rfl
    · rfl
  have hnt : ∀ j, nts T (sgW m) j = [vl T j (dgc T j m) 0] := fun j => by
    unfold nts
    rw [htk, if_pos]
    unfold sgW
    rcases hm with rfl | rfl
    · exact Or.inl rfl
    · exact Or.inr rfl
  unfold wX10_number
  refine ⟨b.1.1.o, m_says hq hi b (fun g1 c1 b1 => ?_)⟩
  rw [mt_app, hnw] at kk
  have nm1 : ∀ g2, mf [] [23, 26] g1 g2 → ∀ g', nmF g2 (4 * c + k) g' → nmF g (4 * c + k) g' := fun g2 c2 g' n => by
    have c12 := c1.tr c2
    exact ⟨(c12.mo (by decide) (fun _ h => h)).tr n.1, fun q hq2 => by rw [n.2 q hq2, c12.c (by decide) (by decide)]⟩
  cases ho : (mtF T l i).2.1 with
  | false =>
    rw [ho] at b1 kk
    rw [if_neg (by decide)] at kk
    have e26 : ¬ mI g1 606 26 = nI 0 := by rw [b1.2.2.2]; decide
    refine ⟨1, ?_⟩
    rw [wX10_number_L11]; dsimp only
    refine ⟨b1.1.1.o, fun _ => ⟨b1.1.1.o, fun _ => ?_, fun z => absurd z e26⟩, fun z => absurd z e26⟩
    unfold wX10_number_J84
    refine m_J89 b1 hc hk (w := 1) (by decide) (fun g' h1 h2 _ => kk g' (nm1 g1 (mf.rf _ _ _) g' h1) ?_ (fun v z => ?_))
    · rw [ho]; exact h2
    · rw [ho] at z; cases z
  | true =>
    rw [ho] at b1 kk
    rw [if_pos rfl, List.nil_append, mt_step, htk, hnt] at kk
    refine ⟨m + 1, m_digs_l (c := c) (by omega) m 0 (mtF T l i).1 0 g1 (by omega) hin b1 (fun g2 c2 b2 => ⟨b2.1.1.o, fun z => absurd b2.2.2.2 z, fun _ => ?_⟩)⟩
    rw [Nat.zero_add]
    have hd3 := dgc_le (T := T) m (mtF T l i).1
    rw [nI_z (by omega)]
    refine ⟨fun z => ?_, fun z => ?_⟩
    · rw [if_neg z] at kk
      refine m_J89 b2 hc hk (w := 0) (by decide) (fun g' h1 h2 h3 => kk g' (nm1 g2 c2 g' h1) h2 (fun v _ hv => ?_))
      have hv : [vl T (mtF T l i).1 (dgc T (mtF T l i).1 m) 0] = [v] := hv
      rw [h3, List.singleton_inj.mp hv]
    · rw [if_pos z] at kk
      unfold wX10_number_J84
      refine m_J89 b2 hc hk (w := 1) (by decide) (fun g' h1 h2 _ => kk g' (nm1 g2 c2 g' h1) ?_ (fun v y => by cases y))
      rw [z, Nat.add_zero] at h2
      exact h2
end RE9
