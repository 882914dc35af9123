/-! THE LAW, CALL BY CALL -/
section LAW
variable {h g : AH} {X X' : BG} {A : AG} {w L : Nat} {K : Int32 → AH → Prop} {C : Nat → Nat → Nat → Int32 → Int32 → Int32 → Int32 → AH → Prop} {S7 : Int64} {T : List AG} {mk kk nn kd m pl : Nat}
theorem la_J862 (c : LC (L := L) w X h) {x27 : Int32} (hb : isB x27) (hkk : kk + 5 < 2 ^ 30) (hmk : mk + 1 < 70) (s6 : mS h 606 = (101, 70)) (S : x27 = nI 0 → smA (bA X) = S7)
    (k0 : x27 = nI 0 → ∀ g o, fcl h g → LC (L := L) w (wO_ X o) g → C 63 64 606 (nI mk) (nI (kk + 5)) (nI (aC (bA X))) (nI (nn + 1)) g)
    (k1 : x27 = nI 1 → ∀ g o, fcl h g → LC (L := L) w (wO_ X o) g → C 63 64 606 (nI (mk + 1)) (nI (kk + 5)) (nI (aC (bA X))) (nI (nn + 1)) (uL g 606 (mk + 1) (smA (bA X)))) :
    wL_law_J862 K C 63 64 606 (nI mk) (nI kk) (nI (aC (bA X))) (nI nn) S7 x27 (nI 1) (nI 1) h := by
  have J : ∀ all, isB all → wL_law_J892 K C 63 64 606 (nI mk) (nI (kk + 5)) (nI (aC (bA X))) (nI nn) S7 x27 64 63 (nI (kk + 5)) (nI (aC (bA X))) all h := by
    intro all ha
    unfold wL_law_J892
    refine la_isWhole c hkk ha (fun g o f c' => ⟨fun _ => ⟨fun z => ?_, fun z => ?_⟩, fun z => absurd z (by decide)⟩)
    · have z1 := hb.resolve_left z
      have s6' : mS g 606 = (101, 70) := by rw [((c.r.fw f).2 606 (Or.inr rfl)).1]; exact s6
      refine la_sum c' ⟨congrArg Prod.fst s6', by decide, ?_, fun h84 e => ?_⟩
      · rw [nI_add, show ln g 606 = 70 from congrArg Prod.snd s6']
        exact vp_in_nI (by omega) (by omega)
      · rw [e, nI_add, nI_add, nI_clamp (by omega)]
        exact k1 z1 g o f c'
    · refine la_sum c' ⟨fun _ => ?_, fun y => absurd ((lg_cmp_eq _ _).mpr (S z)) y⟩
      rw [nI_add]
      exact k0 z g o f c'
  unfold wL_law_J862
  rw [e11, nI_add]
  exact ⟨fun y => absurd y (by decide), fun _ => ⟨fun _ => J (nI 0) (Or.inl rfl), fun _ => J (nI 1) (Or.inr rfl)⟩⟩
variable {o : Option TG} {v x12 x13 x15 x16 x23 x25 : Int32}
theorem la_J267 (c : LC (L := L) w X h) (sw : stW h) (hF : bF X = []) (hw : w + 12 ≤ 6000) (hkd : kd < 48) (hkk : kk + 5 < 2 ^ 30) (hmk : mk + 1 < 70) {v4 : Nat} (e4 : v = nI v4) (h4 : v4 < 100) (bf : Bf (bA X) o v x12 x13 x15 x16 x23 x25) (m1 : 1 ≤ m) (m6 : m ≤ 6) (s6 : mS h 606 = (101, 70))
    (k0 : ∀ X' g o, bA X' = bA X → bH X' = bH X → bF X' = [] → fw h g → LC (L := L) (w + 12) (wO_ X' o) g → C 63 64 606 (nI mk) (nI (kk + 5)) (nI (aC (bA X'))) (nI (nn + 1)) g)
    (k1 : ∀ X' g o, bH X' = (bA X :: bH X).take 8 → bF X' = [] → aC (bA X') ≤ aC (bA X) + 1 → fw h g → LC (L := L) (w + 12) (wO_ X' o) g → C 63 64 606 (nI (mk + 1)) (nI (kk + 5)) (nI (aC (bA X'))) (nI (nn + 1)) (uL g 606 (mk + 1) (smA (bA X')))) :
    wL_law_J267 K C 63 64 606 (nI mk) (nI kk) (nI (aC (bA X))) (nI nn) (smA (bA X)) (nI kd) v x12 x13 (nI m) x15 x16 (nI (aO (bA X))) (nI (aM (bA X))) (lN (aD (bA X))) (nI (aQ (bA X)).length) (nI (aT (bA X)).length) x23 x25 h := by
  obtain ⟨n1, n2, n3⟩ := c.bn
  have q8 := c.ip.q8
  unfold wL_law_J267
  refine la_does c sw hF hw (by omega) hkd e4 h4 (by omega) (fun X' r g d f c' => ?_)
  have n := c.dn hF d
  have s6' : mS g 606 = (101, 70) := by rw [(f.2 606 (Or.inr rfl)).1]; exact s6
  refine ⟨fun hr => ?_, fun hr => ?_⟩
  · have E : wL_law_J862 K C 63 64 606 (nI mk) (nI kk) (nI (aC (bA X'))) (nI nn) (smA (bA X)) (nI 0) (nI 1) (nI 1) g := la_J862 c' (Or.inl rfl) hkk hmk s6' (fun _ => by rw [(n.1 hr).1]) (fun _ g2 o2 f2 c2 => k0 X' g2 o2 (n.1 hr).1 (n.1 hr).2 n.2.2 (f.tr (c'.r.fw f2)) c2) (fun y => absurd y n01.1)
    refine la_J296 c' hkd (by omega) (by omega) (by omega) (by omega) (Or.inl rfl) (fun _ a => c.fE d n (Or.inl hr) a) (fun y => absurd y n01.1) (fun y => absurd y n01.1) (fun y => absurd y n01.1) (fun a b => ?_) (fun y => absurd y n01.1) (fun _ => c.f1 d n (Or.inl hr)) E
    have := c.fA d bf a b
    rw [if_pos hr] at this
    exact this
  · have hC : aC (bA X') ≤ aC (bA X) + 1 := by
      by_cases y : 14 ≤ kd ∧ kd ≤ 21
      · exact Nat.le_of_eq (c.f0 d hr y.1 y.2).1
      · rw [c.f1 d n (Or.inr y)]; exact Nat.le_succ _
    have E : wL_law_J862 K C 63 64 606 (nI mk) (nI kk) (nI (aC (bA X'))) (nI nn) (smA (bA X)) (nI 1) (nI 1) (nI 1) g := la_J862 c' (Or.inr rfl) hkk hmk s6' (fun y => absurd y.symm n01.1) (fun y => absurd y.symm n01.1) (fun _ g2 o2 f2 c2 => k1 X' g2 o2 (n.2.1 hr) n.2.2 hC (f.tr (c'.r.fw f2)) c2)
    refine la_J296 c' hkd (by omega) (by omega) (by omega) (by omega) (Or.inr rfl) (fun z a => c.fE d n (Or.inr (z.resolve_left (fun y => n01.1 y.symm))) a) (fun _ a b => (c.fDC d bf m1 m6 a b).1) (fun _ a b => (c.fDC d bf m1 m6 a b).2) (fun _ a b => c.fB d bf hr a b) (fun a b => ?_) (fun _ a b => c.f0 d hr a b) (fun z => c.f1 d n (Or.inr (z.resolve_left (fun y => n01.1 y.symm)))) E
    have := c.fA d bf a b
    rw [if_neg hr] at this
    exact this
theorem la_J134 (c : LC (L := L) w X h) (sw : stW h) (hF : bF X = []) (hw : w + 12 ≤ 6000) (hkd : kd < 48) (hkk : kk + 5 < 2 ^ 30) (hmk : mk + 1 < 70) (hC : aC (bA X) < 100) (s6 : mS h 606 = (101, 70)) (hp : pl < 2 ^ 31) {z : Int32} (hz : isB z)
    (k0 : ∀ X' g o, bA X' = bA X → bH X' = bH X → bF X' = [] → fw h g → LC (L := L) (w + 12) (wO_ X' o) g → C 63 64 606 (nI mk) (nI (kk + 5)) (nI (aC (bA X'))) (nI (nn + 1)) g)
    (k1 : ∀ X' g o, bH X' = (bA X :: bH X).take 8 → bF X' = [] → aC (bA X') ≤ aC (bA X) + 1 → fw h g → LC (L := L) (w + 12) (wO_ X' o) g → C 63 64 606 (nI (mk + 1)) (nI (kk + 5)) (nI (aC (bA X'))) (nI (nn + 1)) (uL g 606 (mk + 1) (smA (bA X')))) :
    wL_law_J134 K C 63 64 606 (nI mk) (nI kk) (nI (aC (bA X))) (nI nn) (smA (bA X)) (nI kd) 64 (nI (aC (bA X))) (nI pl) z h := by
  have i := c.ip
  have bn := c.bn
  unfold wL_law_J134
  refine la_trainOf c hp hz (fun v o pk => ?_)
  refine lw_hasRoute c.r i (lw_isClear c.r i ?_)
  rw [nI_add]
  refine la_pick c.s63 c.l260 (by omega) (by decide) (by decide) (fun j hj => ?_)
  refine lw_minutesUntilArrival c.r i (lw_minutesUntilNext c.r i ⟨c.r.o, c9_arrived c.r ⟨c.r.o, c9_time c.r ⟨c.r.o, c9_totalDelay c.r (la_waiting c ⟨c.r.o, c9_trains c.r ?_⟩)⟩⟩⟩)
  rw [nI_add]
  have hf := pk.fnd i bn
  cases o with
  | none =>
    have q : ∀ f, lq [-75] (qT f (bA X) v) = -75 := fun f => by unfold qT; rw [hf]; rfl
    have qr : ∀ f, lq [-75] (qR f (bA X) v) = -75 := fun f => by unfold qR; rw [hf]; rfl
    simp only [q, qr]
    refine ⟨fun y => absurd y n01.2.2.1, fun _ => ?_⟩
    unfold wL_law_J230
    refine ⟨fun y => absurd y n01.2.2.1, fun _ => ?_⟩
    unfold wL_law_J247
    exact ⟨fun y => absurd y n01.2.2.1, fun _ => la_J267 c sw hF hw hkd hkk hmk pk hC ⟨hf, rfl, rfl, rfl, rfl, rfl, rfl⟩ (by omega) (by omega) s6 k0 k1⟩
  | some t =>
    obtain ⟨ht, ev⟩ := pk
    obtain ⟨t1, t2, t3, t4, -⟩ := i.2.1 t ht
    have h0 : nI 0 ≤ (if tr t = [] then nI 0 else nI 1) := by split <;> decide
    have eL : lq [-77, -75] (qRL (bA X) (nI (tb t)) (nI (td t))) = (if rtT (bA X) t = [] then -75 else nI (sl (aL (bA X)) (rtT (bA X) t))) := by
      by_cases e : rtT (bA X) t = []
      · rw [if_pos e]; exact qRL_no c.n12 t1 t2 ⟨t3, e⟩
      · rw [if_neg e]; exact qRL_ok c.n12 t1 t2 (Or.inr e)
    have key := fun x23 (hx : x23 = nI (tb t)) => la_J267 (K := K) (nn := nn) c sw hF hw hkd hkk hmk ev (show tn t < 100 by omega) (m := 1 + j) (o := some t) (x23 := x23) ⟨hf, ht, ev, rfl, rfl, rfl, rfl, hx, rfl⟩ (by omega) (by omega) s6 k0 k1
    have k2 := key _ rfl
    rw [ev] at k2 ⊢
    simp only [qT_at i bn ht, qR_at i bn ht]
    refine ⟨fun _ => lw_blockOf c.r i ?_, fun y => absurd h0 y⟩
    rw [qT_at i bn ht]
    unfold wL_law_J230
    refine ⟨fun _ => lw_destination c.r i ?_, fun y => absurd h0 y⟩
    rw [qT_at i bn ht]
    unfold wL_law_J247
    refine ⟨fun _ => lw_routeLength c.r ?_, fun y => absurd h0 y⟩
    rw [eL]
    exact k2
theorem la_J98 (c : LC (L := L) w X h) (sw : stW h) (hF : bF X = []) (hw : w + 12 ≤ 6000) (hkd : kd < 48) (hkk : kk + 5 < 2 ^ 30) (hmk : mk + 1 < 70) (hC : aC (bA X) < 100) (s6 : mS h 606 = (101, 70))
    (k0 : ∀ X' g o, bA X' = bA X → bH X' = bH X → bF X' = [] → fw h g → LC (L := L) (w + 12) (wO_ X' o) g → C 63 64 606 (nI mk) (nI (kk + 5)) (nI (aC (bA X'))) (nI (nn + 1)) g)
    (k1 : ∀ X' g o, bH X' = (bA X :: bH X).take 8 → bF X' = [] → aC (bA X') ≤ aC (bA X) + 1 → fw h g → LC (L := L) (w + 12) (wO_ X' o) g → C 63 64 606 (nI (mk + 1)) (nI (kk + 5)) (nI (aC (bA X'))) (nI (nn + 1)) (uL g 606 (mk + 1) (smA (bA X')))) :
    wL_law_J98 K C 63 64 606 (nI mk) (nI kk) (nI (aC (bA X))) (nI nn) (smA (bA X)) (nI kd) h := by
  unfold wL_law_J98
  refine ⟨c.r.o, c9_blocks c.r (T := True) ?_⟩
  rw [nI_add]
  refine la_pick c.s63 c.l260 (by omega) (by decide) (by decide) (fun j hj => ⟨fun _ => ?_, fun _ => ?_⟩)
  · exact la_J134 c sw hF hw hkd hkk hmk hC s6 (by omega) (Or.inl rfl) k0 k1
  · exact la_J134 c sw hF hw hkd hkk hmk hC s6 (by omega) (Or.inr rfl) k0 k1
/-- the sums that the law keeps, the newest state first -/
def LSm (mk : Nat) (X : BG) (T : List AG) (h : AH) : Prop := T.length = mk ∧ bH X = T.take 8 ∧ mS h 606 = (101, 70) ∧ ∀ i B, (bA X :: T)[i]? = some B → mL h 606 (mk - i) = smA B
theorem LSm.fw (q : LSm mk X T h) (f : fw h g) : LSm mk X T g := by
  have e := f.2 606 (Or.inr rfl)
  exact ⟨q.1, q.2.1, by rw [e.1]; exact q.2.2.1, fun i B hB => by rw [e.2.2.2]; exact q.2.2.2 i B hB⟩
theorem sa.ul6 {a b j : Nat} {v : Int64} (hb : b ≠ a) : sa h (uL h a j v) b := ⟨rfl, rfl, rfl, mL_uLo hb⟩
theorem LC.ul6 (c : LC (L := L) w X h) {j : Nat} {v : Int64} : LC (L := L) w X (uL h 606 j v) := by
  have q := c.r.n607
  obtain ⟨p, r⟩ := c.r
  have e : ∀ b, b < 64 → sa h (uL h 606 j v) b := fun b hb => sa.ul6 (by omega)
  exact ⟨⟨p, r.sm (Nat.le_refl _) (fun b hb => sa.ul6 (by omega))⟩, c.i, c.xb, c.sf.sm e, c.sd.sm e, c.w6, c.s63, c.l260⟩
theorem nI_dec {a : Nat} (ha : 1 ≤ a) : nI a + (-1) = nI (a - 1) := by
  rw [← nI_sub ha, Int32.sub_eq_add_neg]
  congr 1
theorem LC.set (c : LC (L := L) w X h) {H : List AG} {S : Option AG} {B : AG} (hB : IP B ∧ BW w B) (hH : ∀ C ∈ H, IP C ∧ BW w C) (hS : ∀ C, S = some C → IP C ∧ BW w C) (f : fcl h g) (r : RBc g (B, H, S, X.2.2.2)) : LC (L := L) w (B, H, S, X.2.2.2) g := ⟨r, ⟨hB, hH, hS⟩, c.xb, c.sf.fcl f, c.sd.fcl f, c.w6, by rw [(f.2.2 63 (Or.inl (by decide))).1]; exact c.s63, c.l260⟩
theorem la_isKept_l {B0 : AG} (k : ∀ g, K (nI 1) g) : ∀ l b g Y p x5, LC (L := L) w Y g → (bH Y).length = l → l + 1 ≤ b → l ≤ p → p ≤ mk → mk < 70 → bS Y = some B0 → (1 ≤ l → x5 = nI (p - 1)) → mS g 606 = (101, 70) → (∀ i B, (bH Y)[i]? = some B → mL g 606 (p - 1 - i) = smA B) → mL g 606 mk = smA B0 → wL_isKept_L18 K (l + 1) b 64 606 (nI mk) (nI (aT B0).length) (nI l) x5 g := by
  intro l
  induction l with
  | zero =>
    intro b g Y p x5 c hl hb hp hpm hm hS _ s6 _ e0
    rw [wL_isKept_L18]; dsimp only
    refine ⟨fun _ => ⟨by omega, ?_⟩, fun y => absurd (by decide) y⟩
    have hN : bH Y = [] := List.eq_nil_of_length_eq_zero hl
    refine lw_undo c.r (fun B H e => by rw [hN] at e; cases e) (fun _ => ⟨fun y => absurd rfl y, fun _ => lw_restore c.r hS (fun g2 f2 r2 => ⟨fun y => absurd rfl y, fun _ => ?_⟩)⟩)
    have c2 : LC (L := L) w (B0, [], bS Y, Y.2.2.2) g2 := c.set (c.i.2.2 B0 hS) (fun C hC => absurd hC List.not_mem_nil) c.i.2.2 f2 r2
    have e6 := (c.r.fw f2).2 606 (Or.inr rfl)
    refine la_sum c2 ⟨?_, ?_, fun y => ?_, fun _ => ?_⟩
    · show (mS g2 606).1 = _
      rw [e6.1, s6]
    · show vp_in _ (mS g2 606).2
      rw [e6.1, s6]
      exact vp_in_nI (by omega) (by omega)
    · refine absurd ((lg_cmp_eq _ _).mpr ?_) y
      rw [nI_clamp (by omega), e6.2.2.2, e0]
      rfl
    · exact lw_undo c2.r (fun B H e => by cases e) (fun _ => ⟨fun y => absurd rfl y, fun _ => k g2⟩)
  | succ l ih =>
    intro b g Y p x5 c hl hb hp hpm hm hS hx s6 eS e0
    rw [wL_isKept_L18]; dsimp only
    have hx := hx (by omega)
    refine ⟨fun y => ?_, fun _ => ⟨by omega, ?_⟩⟩
    · rw [nI_leI (by omega) (by decide)] at y
      omega
    · refine lw_undo c.r (fun B H e g2 f2 r2 => ?_) (fun e => by rw [e] at hl; cases hl)
      rw [e] at hl eS
      have hl : H.length = l := Nat.succ.inj hl
      rw [nI_dec (by omega), hl]
      refine ⟨fun y => absurd rfl y, fun _ => ?_⟩
      have c2 : LC (L := L) w (B, H, bS Y, Y.2.2.2) g2 := c.set (c.i.2.1 B (by rw [e]; exact List.mem_cons_self)) (fun C hC => c.i.2.1 C (by rw [e]; exact List.mem_cons_of_mem _ hC)) c.i.2.2 f2 r2
      have e6 := (c.r.fw f2).2 606 (Or.inr rfl)
      have eB : mL g 606 (p - 1) = smA B := eS 0 B rfl
      refine la_sum c2 ⟨?_, ?_, fun _ => ?_, fun y => ?_⟩
      · show (mS g2 606).1 = _
        rw [e6.1, s6]
      · show vp_in _ (mS g2 606).2
        rw [e6.1, s6, hx]
        exact vp_in_nI (by omega) (by omega)
      · refine ih (b - 1) g2 (B, H, bS Y, Y.2.2.2) (p - 1) _ c2 hl (by omega) (by omega) (by omega) hm hS (fun z => ?_) (by rw [e6.1]; exact s6) (fun i D hD => ?_) (by rw [e6.2.2.2]; exact e0)
        · rw [hx, nI_dec (by omega)]
        · rw [e6.2.2.2, ← eS (i + 1) D hD]
          congr 1
          omega
      · refine absurd ((lg_cmp_eq _ _).mpr ?_) y
        rw [hx, nI_clamp (by omega), e6.2.2.2, eB]
        rfl
theorem la_isKept (c : LC (L := L) w X h) (q : LSm mk X T h) (hm : mk < 70) (k : ∀ g, K (nI 1) g) : wL_isKept 64 606 (nI mk) h K := by
  obtain ⟨q1, q2, q3, q4⟩ := q
  unfold wL_isKept
  refine ⟨c.r.o, c9_save c.r (fun g f r => ?_)⟩
  have e6 := (c.r.fw f).2 606 (Or.inr rfl)
  have c2 : LC (L := L) w (bA X, bH X, some (bA X), X.2.2.2) g := c.set c.i.1 c.i.2.1 (fun C hC => by cases hC; exact c.i.1) f r
  have hl : (bH X).length = min 8 mk := by rw [q2, List.length_take, q1]
  have e8 : (if nI mk < nI 8 then nI mk else nI 8) = nI (min 8 mk) := by
    by_cases y : mk < 8
    · rw [if_pos (by rw [nI_ltI (by omega) (by decide)]; exact y), Nat.min_eq_right (by omega)]
    · rw [if_neg (by rw [nI_ltI (by omega) (by decide)]; exact y), Nat.min_eq_left (by omega)]
  rw [e8]
  refine ⟨min 8 mk + 1, 9, Nat.le_refl _, la_isKept_l (B0 := bA X) k (min 8 mk) 9 g _ mk _ c2 hl (by omega) (by omega) (Nat.le_refl _) hm rfl (fun z => nI_sub (by omega)) (by rw [e6.1]; exact q3) (fun i B hB => ?_) (by rw [e6.2.2.2]; exact q4 0 _ rfl)⟩
  have hB : (bH X)[i]? = some B := hB
  rw [q2, List.getElem?_take] at hB
  split at hB
  · have := q4 (i + 1) B hB
    rw [e6.2.2.2, ← this]
    congr 1
    omega
  · cases hB
theorem la_law_l (k : ∀ g, K (nI 1) g) : ∀ j n b w mk X T h, n + j = 54 → j + 1 ≤ b → LC (L := L) w X h → stW h → bF X = [] → w + 12 * j ≤ 6000 → aC (bA X) ≤ n → mk ≤ n → LSm mk X T h → wL_law_L31 K (j + 1) b 63 64 606 (nI mk) (nI (5 * n)) (nI (aC (bA X))) (nI n) h := by
  intro j
  induction j with
  | zero =>
    intro n b w mk X T h hn hb c sw hF hw hC hmk q
    rw [wL_law_L31]; dsimp only
    refine ⟨fun _ => ⟨by omega, la_isKept c q (by omega) (fun g => ⟨rfl, k g⟩)⟩, fun y => ?_⟩
    rw [nI_leI (by decide) (by omega)] at y
    omega
  | succ j ih =>
    intro n b w mk X T h hn hb c sw hF hw hC hmk q
    rw [wL_law_L31]; dsimp only
    refine ⟨fun y => ?_, fun _ => ⟨by omega, ?_⟩⟩
    · rw [nI_leI (by decide) (by omega)] at y
      omega
    · refine la_sum c ?_
      have key : ∀ kd, kd < 48 → wL_law_J98 K (wL_law_L31 K (j + 1) (b - 1)) 63 64 606 (nI mk) (nI (5 * n)) (nI (aC (bA X))) (nI n) (smA (bA X)) (nI kd) h := by
        intro kd hkd
        refine la_J98 c sw hF (by omega) hkd (by omega) (by omega) (by omega) q.2.2.1 (fun X' g o eA eH eF f c' => ?_) (fun X' g o eH eF eC f c' => ?_)
        · exact ih (n + 1) (b - 1) (w + 12) mk (wO_ X' o) T g (by omega) (by omega) c' (sw.sm (fun d hd => f.2 d (Or.inl hd))) eF (by omega) (by show aC (bA X') ≤ _; rw [eA]; omega) (by omega) (by
            obtain ⟨q1, q2, q3, q4⟩ := q.fw f
            exact ⟨q1, eH.trans q2, q3, fun i B hB => q4 i B (by rw [← eA]; exact hB)⟩)
        · refine ih (n + 1) (b - 1) (w + 12) (mk + 1) (wO_ X' o) (bA X :: T) (uL g 606 (mk + 1) (smA (bA X'))) (by omega) (by omega) c'.ul6 ((sw.sm (fun d hd => f.2 d (Or.inl hd))).sm (fun d hd => sa.ul6 (by omega))) eF (by omega) (by show aC (bA X') ≤ _; omega) (by omega) ?_
          obtain ⟨q1, q2, q3, q4⟩ := q.fw f
          refine ⟨by rw [List.length_cons, q1], ?_, q3, fun i B hB => ?_⟩
          · show bH X' = _
            rw [eH, q2]
            simp [List.take_take]
          · rw [mL_uL]
            cases i with
            | zero =>
              have hB : some (bA X') = some B := hB
              cases hB
              rw [if_pos ⟨rfl, rfl⟩]
            | succ i =>
              have hB : (bA X :: T)[i]? = some B := hB
              have hi : i < (bA X :: T).length := (List.getElem?_eq_some_iff.mp hB).1
              rw [List.length_cons, q1] at hi
              rw [if_neg (by omega), ← q4 i B hB]
              congr 1
              omega
      refine ⟨fun _ => ⟨fun _ => ⟨fun _ => ⟨fun _ => ?_, fun _ => key 14 (by decide)⟩, fun _ => key 7 (by decide)⟩, fun _ => key 4 (by decide)⟩, fun _ => key 0 (by decide)⟩
      exact la_pick c.s63 c.l260 (by omega) (by decide) (by decide) (fun kd hkd => key kd hkd)
end LAW
