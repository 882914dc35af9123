/-! ROUTES LEAD OVER EXITS AND ARE AS LONG AS TOLD -/
section ROU
theorem nd_1 (a : Nat) : [a].Nodup := List.nodup_cons.mpr ⟨List.not_mem_nil, List.nodup_nil⟩
variable {h g : AH} {X : BG} {A : AG} {G : LG} {to w L : Nat} {K : Int32 → AH → Prop}
theorem mc_le : ∀ f b S, mcP G to f b S ≤ 2 ^ f := by
  intro f
  induction f with
  | zero => intro b S; exact Nat.zero_le _
  | succ f ih =>
    intro b S
    rw [mcP]
    have h1 : 1 ≤ 2 ^ f := Nat.one_le_two_pow
    have h2 : 2 ^ (f + 1) = 2 ^ f + 2 ^ f := by rw [Nat.pow_succ]; omega
    have h3 : ∀ c S', (if S.testBit c = true then 0 else mcP G to f c S') ≤ 2 ^ f := fun c S' => by
      split
      · omega
      · exact ih _ _
    by_cases e : b = to
    · rw [if_pos e]; omega
    · rw [if_neg e]
      by_cases e3 : gf G b = gr G b
      · rw [if_pos e3]
        cases hl : gf G b with
        | none => dsimp only; omega
        | some l => dsimp only; have := h3 l (S ||| 2 ^ l); omega
      · rw [if_neg e3]
        cases hl : gf G b with
        | none =>
          cases hr : gr G b with
          | none => dsimp only; omega
          | some r => dsimp only; have := h3 r (S ||| 2 ^ r); omega
        | some l =>
          have a1 := h3 l (S ||| 2 ^ l)
          cases hr : gr G b with
          | none => dsimp only; omega
          | some r => dsimp only; have := h3 r (S ||| 2 ^ r); omega
theorem mc_31 (b S : Nat) : mcP G to 14 b S < 2 ^ 31 := Nat.lt_of_le_of_lt (mc_le 14 b S) (by decide)
/-- where a path is counted there is a route -/
theorem mc_ds (i : IL G) (x : BT G to) : ∀ f b S, b < gn G → 0 < mcP G to f b S → ds G to b ≠ none := by
  intro f
  induction f with
  | zero => intro b S _ z; exact absurd z (Nat.lt_irrefl 0)
  | succ f ih =>
    intro b S hb
    rw [mcP]
    by_cases e : b = to
    · subst e
      intro _ z
      rw [x.1] at z
      cases z
    · rw [if_neg e]
      have key : ∀ c S', ex G b c → 0 < mcP G to f c S' → ds G to b ≠ none := fun c S' hc hp z => by
        have hcn := (ex_lt i hb hc).1
        exact ih c S' hcn hp (((x.2.2 b hb e).1 z).2 c hc)
      have key2 : ∀ c S', ex G b c → 0 < (if S.testBit c = true then 0 else mcP G to f c S') → ds G to b ≠ none := fun c S' hc hp => by
        by_cases e2 : S.testBit c = true
        · rw [if_pos e2] at hp; exact absurd hp (Nat.lt_irrefl 0)
        · rw [if_neg e2] at hp; exact key c S' hc hp
      intro hp
      by_cases e3 : gf G b = gr G b
      · rw [if_pos e3] at hp
        cases hl : gf G b with
        | none => rw [hl] at hp; exact absurd hp (Nat.lt_irrefl 0)
        | some l => rw [hl] at hp; exact key2 l _ (Or.inl hl) hp
      · rw [if_neg e3] at hp
        cases hl : gf G b with
        | none =>
          cases hr : gr G b with
          | none => rw [hl, hr] at hp; exact absurd hp (Nat.lt_irrefl 0)
          | some r =>
            rw [hl, hr] at hp
            dsimp only at hp
            exact key2 r (S ||| 2 ^ r) (Or.inr hr) (by omega)
        | some l =>
          cases hr : gr G b with
          | none =>
            rw [hl, hr] at hp
            dsimp only at hp
            exact key2 l (S ||| 2 ^ l) (Or.inl hl) (by omega)
          | some r =>
            rw [hl, hr] at hp
            dsimp only at hp
            by_cases z : 0 < (if S.testBit l = true then 0 else mcP G to f l (S ||| 2 ^ l))
            · exact key2 l _ (Or.inl hl) z
            · exact key2 r (S ||| 2 ^ r) (Or.inr hr) (by omega)
/-- the steps of a walk over exits -/
def exs (G : LG) : Nat → List Nat → Prop
  | _, [] => True
  | b, c :: l => ex G b c ∧ exs G c l
theorem mc_step (i : IL G) {f b c S : Nat} (hb : b < gn G) (hbt : b ≠ to) (hc : ex G b c) (hS : S.testBit c = false) : mcP G to f c (S ||| 2 ^ c) ≤ mcP G to (f + 1) b S := by
  rw [mcP, if_neg hbt]
  rcases hc with hc | hc
  · rw [hc]
    dsimp only
    rw [if_neg (by rw [hS]; decide)]
    omega
  · obtain ⟨l, hl⟩ : ∃ l, gf G b = some l := by
      rcases i.2.2.1 b hb with ⟨-, z⟩ | ⟨l, r, z, -⟩
      · rw [hc] at z; cases z
      · exact ⟨l, z⟩
    by_cases e : gf G b = gr G b
    · rw [e, hc]
      dsimp only
      rw [if_neg (by rw [hS]; decide)]
      omega
    · rw [if_neg e, hc]
      dsimp only
      rw [if_neg (by rw [hS]; decide)]
      omega
theorem mc_pos (i : IL G) : ∀ (l : List Nat) (f b S : Nat), b < gn G → exs G b l → (b :: l).getLast? = some to → (b :: l).Nodup → (∀ y ∈ l, S.testBit y = false) → l.length < f → 0 < mcP G to f b S := by
  intro l
  induction l with
  | nil =>
    intro f b S hb _ hlast _ _ hf
    obtain ⟨f, rfl⟩ : ∃ f', f = f' + 1 := ⟨f - 1, by simp at hf; omega⟩
    have e : b = to := by simpa using hlast
    rw [mcP, if_pos e]
    exact Nat.one_pos
  | cons c l ih =>
    intro f b S hb hx hlast hnd hS hf
    simp only [List.length_cons] at hf
    obtain ⟨f, rfl⟩ : ∃ f', f = f' + 1 := ⟨f - 1, by omega⟩
    have hbt : b ≠ to := fun z => by
      have h1 : to ∈ (c :: l) := List.mem_of_getLast? (by rw [List.getLast?_cons_cons] at hlast; exact hlast)
      exact (List.nodup_cons.mp hnd).1 (z ▸ h1)
    have hcn := (ex_lt i hb hx.1).1
    refine Nat.lt_of_lt_of_le (ih f c (S ||| 2 ^ c) hcn hx.2 (by rw [List.getLast?_cons_cons] at hlast; exact hlast) (List.nodup_cons.mp hnd).2 (fun y hy => ?_) (by omega)) (mc_step i hb hbt hx.1 (hS c List.mem_cons_self))
    have hne : ¬ c = y := fun z => (List.nodup_cons.mp (List.nodup_cons.mp hnd).2).1 (z ▸ hy)
    rw [tb_or, hS y (List.mem_cons_of_mem _ hy)]
    simp [hne]
theorem tb_self {b y : Nat} (h : y ≠ b) : (2 ^ b).testBit y = false := by
  rw [Nat.testBit_two_pow]
  simp
  omega
theorem rt_exs (i : IL G) (x : BT G to) : ∀ (l : List Nat) (b : Nat), b < gn G → rt G b to = l → (b = to ∨ l ≠ []) → exs G b l ∧ (b :: l).getLast? = some to := by
  intro l
  induction l with
  | nil =>
    intro b _ _ h1
    rcases h1 with rfl | h1
    · exact ⟨trivial, rfl⟩
    · exact absurd rfl h1
  | cons c l ih =>
    intro b hb hr _
    have hnx : nx G to b = some c := by
      cases hn2 : nx G to b with
      | none => rw [rt_nil hn2] at hr; cases hr
      | some d =>
        have := (rt_cons i x hb hn2).1
        rw [hr] at this
        cases this
        rfl
    obtain ⟨q1, q2, q3, q4, d, d', hd, hd', -⟩ := rt_cons i x hb hnx
    rw [hr] at q1
    have q1 : rt G c to = l := by injection q1 with _ q; exact q.symm
    have hcl : c = to ∨ l ≠ [] := by
      by_cases z : c = to
      · exact Or.inl z
      · refine Or.inr (fun y => ?_)
        rw [y] at q1
        have := (rt_ne x q3 z).mp q1
        rw [(nx_none x q3 z), hd'] at this
        cases this
    have := ih c q3 q1 hcl
    exact ⟨⟨q2, this.1⟩, by rw [List.getLast?_cons_cons]; exact this.2⟩
/-- a route's rests are routes -/
theorem rt_drop (i : IL G) (x : BT G to) {b : Nat} (hb : b < gn G) (hr : b = to ∨ rt G b to ≠ []) : ∀ k, k ≤ (rt G b to).length → ∃ c, (b :: rt G b to)[k]? = some c ∧ c < gn G ∧ rt G c to = (rt G b to).drop k ∧ (c = to ∨ rt G c to ≠ []) := by
  intro k
  induction k with
  | zero => intro _; exact ⟨b, rfl, hb, rfl, hr⟩
  | succ k ih =>
    intro hk
    obtain ⟨c, c1, c2, c3, c4⟩ := ih (by omega)
    have hlt : k < (rt G b to).length := by omega
    have hd : (rt G b to).drop k = (rt G b to)[k] :: (rt G b to).drop (k + 1) := List.drop_eq_getElem_cons hlt
    rw [hd] at c3
    have hnx : nx G to c = some ((rt G b to)[k]) := by
      cases hn2 : nx G to c with
      | none => rw [rt_nil hn2] at c3; cases c3
      | some d =>
        have := (rt_cons i x c2 hn2).1
        rw [c3] at this
        injection this with e _
        rw [e]
    obtain ⟨q1, q2, q3, q4, d, d', hd1, hd2, -⟩ := rt_cons i x c2 hnx
    rw [c3] at q1
    have q1 : rt G (rt G b to)[k] to = (rt G b to).drop (k + 1) := by injection q1 with _ q; exact q.symm
    refine ⟨(rt G b to)[k], by rw [List.getElem?_cons_succ]; exact List.getElem?_eq_getElem hlt, q3, q1, ?_⟩
    by_cases z : (rt G b to)[k] = to
    · exact Or.inl z
    · refine Or.inr (fun y => ?_)
      have := (rt_ne x q3 z).mp y
      rw [(nx_none x q3 z), hd2] at this
      cases this
theorem qRL_ok {a b : Nat} (n12 : gn (aL A) ≤ 12) (ha : a < gn (aL A)) (hb : b < gn (aL A)) (h : a = b ∨ rt (aL A) a b ≠ []) : lq [-77, -75] (qRL A (nI a) (nI b)) = nI (sl (aL A) (rt (aL A) a b)) := by
  unfold qRL
  rw [iv_j ha (by omega), iv_j hb (by omega)]
  dsimp only
  rw [if_neg (fun z => h.elim z.1 (fun y => y z.2))]
  rfl
theorem qRL_no {a b : Nat} (n12 : gn (aL A) ≤ 12) (ha : a < gn (aL A)) (hb : b < gn (aL A)) (h : a ≠ b ∧ rt (aL A) a b = []) : lq [-77, -75] (qRL A (nI a) (nI b)) = -75 := by
  unfold qRL
  rw [iv_j ha (by omega), iv_j hb (by omega)]
  dsimp only
  rw [if_pos h]
  rfl
theorem qRB_ok {a b k : Nat} (n12 : gn (aL A) ≤ 12) (ha : a < gn (aL A)) (hb : b < gn (aL A)) (h : a = b ∨ rt (aL A) a b ≠ []) (hl : (rt (aL A) a b).length ≤ 11) (hk : k ≤ (rt (aL A) a b).length) : lq [-77, -75] (qRB A (nI a) (nI b) (nI k)) = nI ((a :: rt (aL A) a b).getD k 0) := by
  unfold qRB
  rw [iv_j ha (by omega), iv_j hb (by omega)]
  dsimp only
  rw [if_neg (fun z => h.elim z.1 (fun y => y z.2)), iv_j (by omega) (by omega)]
  rfl
theorem qRB_end {a b k : Nat} (n12 : gn (aL A) ≤ 12) (ha : a < gn (aL A)) (hb : b < gn (aL A)) (h : a = b ∨ rt (aL A) a b ≠ []) (hl : (rt (aL A) a b).length ≤ 11) (hk : (rt (aL A) a b).length < k) (hk2 : k < 2 ^ 31) : lq [-77, -75] (qRB A (nI a) (nI b) (nI k)) = -75 := by
  unfold qRB
  rw [iv_j ha (by omega), iv_j hb (by omega)]
  dsimp only
  rw [if_neg (fun z => h.elim z.1 (fun y => y z.2)), iv_no (by omega) hk2 (by omega)]
  rfl
theorem qRB_no {a b k : Nat} (n12 : gn (aL A) ≤ 12) (ha : a < gn (aL A)) (hb : b < gn (aL A)) (h : a ≠ b ∧ rt (aL A) a b = []) : lq [-77, -75] (qRB A (nI a) (nI b) (nI k)) = -75 := by
  unfold qRB
  rw [iv_j ha (by omega), iv_j hb (by omega)]
  dsimp only
  rw [if_pos h]
  rfl
theorem qP_ok {a b : Nat} (n12 : gn (aL A) ≤ 12) (ha : a < gn (aL A)) (hb : b < gn (aL A)) : lq [-77] (qPaths A (nI a) (nI b)) = nI (mcP (aL A) b 14 a (2 ^ a)) := by
  unfold qPaths
  rw [iv_j ha (by omega), iv_j hb (by omega)]
  rfl
theorem qLen_ok {a : Nat} (n12 : gn (aL A) ≤ 12) (ha : a < gn (aL A)) : lq [-77] (qLen A (nI a)) = nI (gl (aL A) a) := by
  unfold qLen
  rw [iv_j ha (by omega)]
  rfl
theorem sl_app (G : LG) : ∀ l m : List Nat, sl G (l ++ m) = sl G l + sl G m := by
  intro l
  induction l with
  | nil => intro m; exact (Nat.zero_add _).symm
  | cons c l ih =>
    intro m
    show gl G c + sl G (l ++ m) = gl G c + sl G l + sl G m
    rw [ih]
    omega
theorem sml_n : ∀ e, e < 31 → ((nI e &&& nI 31).toBitVec.smod 32).toNat = e := by decide +kernel
theorem shr_b {S e : Nat} (hS : S < 2 ^ 31) (he : e < 31) : ((nI S >>> (nI e &&& nI 31)) &&& nI 1) = nI (if S.testBit e = true then 1 else 0) := by
  have h2 : ∀ x : Nat, x &&& 1 = x % 2 := fun x => Nat.and_two_pow_sub_one_eq_mod x 1
  rw [pk_shrN hS _ e (sml_n e he), n_and, h2, Nat.testBit_eq_decide_div_mod_eq]
  by_cases z : S / 2 ^ e % 2 = 1
  · rw [z]; simp
  · have z0 : S / 2 ^ e % 2 = 0 := by omega
    rw [z0]; simp
theorem seen_b (m b : Nat) (hm : m < 2 ^ 12) (hb : b < 12) : (((nI m >>> (nI b &&& nI 31)) &&& (nI 1)) = (nI 1)) = (m.testBit b = true) := by
  rw [shr_b (Nat.lt_of_lt_of_le hm (by decide)) (by omega)]
  cases m.testBit b
  · simp only [Bool.false_eq_true, if_false, eq_iff_iff, iff_false]
    decide
  · simp
theorem rt_len (gk : GK A) {a b : Nat} (ha : a < gn (aL A)) (hb : b < gn (aL A)) : (rt (aL A) a b).length ≤ 11 ∧ (a :: rt (aL A) a b).Nodup ∧ ∀ y ∈ rt (aL A) a b, y < gn (aL A) := by
  have xb := gk.2.1.b hb
  cases hd : ds (aL A) b a with
  | some d =>
    have := rt_all gk.1 xb ha hd
    exact ⟨this.2.2.2.2, this.2.2.2.1, this.2.2.1⟩
  | none =>
    have hne : a ≠ b := fun z => by rw [z, xb.1] at hd; cases hd
    have hr : rt (aL A) a b = [] := (rt_ne xb ha hne).mpr ((nx_none xb ha hne).mpr hd)
    rw [hr]
    exact ⟨by decide, nd_1 _, fun y hy => by cases hy⟩
theorem la_isRoute_l (c : LC (L := L) w X h) {a t : Nat} (ha : a < gn (aL (bA X))) (ht : t < gn (aL (bA X))) (hr : a = t ∨ rt (aL (bA X)) a t ≠ []) (k1 : K (nI 1) h) :
    ∀ j b x, x + j = (rt (aL (bA X)) a t).length → j + 1 ≤ b → wL_isRoute_L70 K (j + 1) b 64 (nI a) (nI t) (nI (sl (aL (bA X)) (rt (aL (bA X)) a t))) (nI (mcP (aL (bA X)) t 14 a (2 ^ a))) (nI (sl (aL (bA X)) ((rt (aL (bA X)) a t).take x))) (nI (bts ((a :: rt (aL (bA X)) a t).take (x + 1)))) (nI x) h := by
  have n12 := c.n12
  have gk := c.gk
  have il := gk.1
  have xb := gk.2.1.b ht
  obtain ⟨hl, hnd, hlt⟩ := rt_len gk ha ht
  obtain ⟨hex, hlast⟩ := rt_exs il xb _ a ha rfl hr
  have hsl : sl (aL (bA X)) (rt (aL (bA X)) a t) < 2 ^ 31 := by
    have := sl_le il _ hlt
    omega
  have hm := mc_31 (G := aL (bA X)) (to := t) a (2 ^ a)
  have hpos : 0 < mcP (aL (bA X)) t 14 a (2 ^ a) := mc_pos il _ 14 a _ ha hex hlast hnd (fun y hy => tb_self (fun z => (List.nodup_cons.mp hnd).1 (z ▸ hy))) (by omega)
  intro j
  induction j with
  | zero =>
    intro b x hx hb
    rw [wL_isRoute_L70]; dsimp only
    refine ⟨by omega, lw_routeBlock c.r ?_⟩
    rw [nI_add, qRB_end n12 ha ht hr hl (by omega) (by omega)]
    refine ⟨fun _ => ?_, fun z => absurd (by decide) z⟩
    rw [nI_ltI hm (by decide), show (rt (aL (bA X)) a t).take x = rt (aL (bA X)) a t from List.take_of_length_le (by omega)]
    refine ⟨fun z => absurd z (by omega), fun _ => ⟨fun z => absurd rfl z, fun _ => lw_routeBlock c.r ?_⟩⟩
    rw [qRB_ok n12 ha ht hr hl (by omega)]
    have e1 : (a :: rt (aL (bA X)) a t).getD x 0 = t := by
      rw [List.getLast?_eq_getElem?] at hlast
      have e2 : (a :: rt (aL (bA X)) a t).length - 1 = x := by rw [List.length_cons]; omega
      rw [e2] at hlast
      rw [List.getD_eq_getElem?_getD, hlast]
      rfl
    rw [e1]
    refine ⟨fun z => absurd rfl z, fun _ => lw_routeBlock c.r ?_⟩
    rw [qRB_ok n12 ha ht hr hl (Nat.zero_le _)]
    refine ⟨fun z => absurd rfl z, fun _ => lw_routeLengthByPaths c.r ?_⟩
    rw [qRL_ok n12 ha ht hr]
    refine ⟨fun z => absurd rfl z, fun _ => ⟨fun _ => k1, fun z => ?_⟩⟩
    rw [nI_eq (by omega) (by omega)] at z
    subst z
    rw [rt_self xb]
    refine ⟨fun z => absurd rfl z, fun _ => ?_⟩
    rw [show mcP (aL (bA X)) a 14 a (2 ^ a) = 1 by rw [mcP, if_pos rfl]]
    exact ⟨fun z => absurd rfl z, fun _ => k1⟩
  | succ j ih =>
    intro b x hx hb
    have hxl : x < (rt (aL (bA X)) a t).length := by omega
    obtain ⟨u, u1, u2, u3, u4⟩ := rt_drop il xb ha hr x (by omega)
    obtain ⟨v, v1, v2, v3, v4⟩ := rt_drop il xb ha hr (x + 1) (by omega)
    have v1' : (rt (aL (bA X)) a t)[x]? = some v := by rw [← v1, List.getElem?_cons_succ]
    have eu : (a :: rt (aL (bA X)) a t).getD x 0 = u := by rw [List.getD_eq_getElem?_getD, u1]; rfl
    have ev : (a :: rt (aL (bA X)) a t).getD (x + 1) 0 = v := by rw [List.getD_eq_getElem?_getD, v1]; rfl
    have hd : (rt (aL (bA X)) a t).drop x = v :: (rt (aL (bA X)) a t).drop (x + 1) := by
      rw [List.drop_eq_getElem_cons hxl]
      congr 1
      rw [List.getElem?_eq_getElem hxl] at v1'
      injection v1'
    have hnx : nx (aL (bA X)) t u = some v := by
      rw [hd] at u3
      cases hn2 : nx (aL (bA X)) t u with
      | none => rw [rt_nil hn2] at u3; cases u3
      | some d =>
        have := (rt_cons il xb u2 hn2).1
        rw [u3] at this
        injection this with e _
        rw [e]
    obtain ⟨q1, q2, q3, q4, -⟩ := rt_cons il xb u2 hnx
    have huv := (ex_lt il u2 q2).2
    have hbt : ∀ y ∈ (a :: rt (aL (bA X)) a t).take (x + 1), y < 12 := fun y hy => by
      rcases List.mem_cons.mp (List.mem_of_mem_take hy) with rfl | hy
      · omega
      · have := hlt y hy; omega
    have hv12 : v < 12 := by omega
    have hnot : v ∉ (a :: rt (aL (bA X)) a t).take (x + 1) := fun z => by
      have hnd2 := hnd
      rw [← List.take_append_drop (x + 1) (a :: rt (aL (bA X)) a t)] at hnd2
      have hv2 : v ∈ (a :: rt (aL (bA X)) a t).drop (x + 1) := by
        rw [List.drop_succ_cons, hd]
        exact List.mem_cons_self
      exact (List.nodup_append.mp hnd2).2.2 v z v hv2 rfl
    rw [wL_isRoute_L70]; dsimp only
    refine ⟨by omega, lw_routeBlock c.r ?_⟩
    rw [nI_add, qRB_ok (k := x + 1) n12 ha ht hr hl (by omega), ev]
    refine ⟨fun z => absurd z (m75 (by omega)).2.1, fun _ => lw_routeBlock c.r (lw_routeBlock c.r ?_)⟩
    rw [qRB_ok (k := x) n12 ha ht hr hl (by omega), eu, qRB_ok (k := x + 1) n12 ha ht hr hl (by omega), ev, seen_b _ _ (bts_lt hbt) hv12, bts_tb]
    refine ⟨fun z => absurd (of_decide_eq_true z) hnot, fun _ => lw_paths c.r ?_⟩
    rw [qP_ok n12 u2 v2, nI_ltI (mc_31 _ _) (by decide)]
    have hp : 0 < mcP (aL (bA X)) v 14 u (2 ^ u) := mc_pos il [v] 14 u _ u2 ⟨q2, trivial⟩ rfl (List.nodup_cons.mpr ⟨by simp; exact fun z => huv z.symm, nd_1 _⟩) (fun y hy => by
      rw [List.mem_singleton.mp hy]
      exact tb_self huv) (by show 1 < 14; decide)
    refine ⟨fun z => absurd z (by omega), fun _ => lw_routeLength c.r ?_⟩
    have es : sl (aL (bA X)) (rt (aL (bA X)) a t) = sl (aL (bA X)) ((rt (aL (bA X)) a t).take x) + sl (aL (bA X)) (rt (aL (bA X)) u t) := by
      rw [u3, ← sl_app, List.take_append_drop]
    rw [qRL_ok n12 u2 ht u4, nI_sub (by omega)]
    refine ⟨fun _ => ?_, fun z => absurd (by rw [es, Nat.add_sub_cancel_left]) z⟩
    intro v35 e35
    refine lw_blockLength c.r ?_
    rw [qLen_ok n12 v2, nI_add, e35, n_shl v (by omega), n_or]
    have e5 : sl (aL (bA X)) ((rt (aL (bA X)) a t).take x) + gl (aL (bA X)) v = sl (aL (bA X)) ((rt (aL (bA X)) a t).take (x + 1)) := by
      rw [take_s v1', sl_app]
      rfl
    have e6 : bts ((a :: rt (aL (bA X)) a t).take (x + 1)) ||| 2 ^ v = bts ((a :: rt (aL (bA X)) a t).take (x + 1 + 1)) := by
      apply Nat.eq_of_testBit_eq
      intro y
      rw [tb_or, bts_tb, bts_tb, take_s v1]
      by_cases z : v = y
      · simp [z]
      · have q : ¬ y = v := fun q => z q.symm
        simp [z, q]
    rw [e5, e6]
    exact ih (b - 1) (x + 1) (by omega) (by omega)
theorem la_isRoute (c : LC (L := L) w X h) {a t : Nat} (ha : a < gn (aL (bA X))) (ht : t < gn (aL (bA X))) (k1 : K (nI 1) h) : wL_isRoute 64 (nI a) (nI t) h K := by
  have n12 := c.n12
  have gk := c.gk
  have il := gk.1
  have xb := gk.2.1.b ht
  obtain ⟨hl, hnd, hlt⟩ := rt_len gk ha ht
  unfold wL_isRoute
  refine lw_routeLength c.r (lw_paths c.r ?_)
  rw [qP_ok n12 ha ht]
  by_cases hr : a = t ∨ rt (aL (bA X)) a t ≠ []
  · have hsl : sl (aL (bA X)) (rt (aL (bA X)) a t) < 2 ^ 31 := by
      have := sl_le il _ hlt
      omega
    rw [qRL_ok n12 ha ht hr, nI_leI (by decide) hsl]
    refine ⟨fun _ => ⟨(rt (aL (bA X)) a t).length + 1, 12, Nat.le_refl _, ?_⟩, fun z => absurd (Nat.zero_le _) z⟩
    have := la_isRoute_l c ha ht hr k1 (rt (aL (bA X)) a t).length 12 0 (Nat.zero_add _) (by omega)
    rw [n_shl a (by omega)]
    have e : bts ((a :: rt (aL (bA X)) a t).take (0 + 1)) = 2 ^ a := by
      apply Nat.eq_of_testBit_eq
      intro y
      rw [bts_tb, Nat.testBit_two_pow]
      exact decide_eq_decide.mpr (by simp; omega)
    rw [e] at this
    exact this
  · have hr' : a ≠ t ∧ rt (aL (bA X)) a t = [] := ⟨fun z => hr (Or.inl z), by
      by_cases z : rt (aL (bA X)) a t = []
      · exact z
      · exact absurd (Or.inr z) hr⟩
    have h0 : mcP (aL (bA X)) t 14 a (2 ^ a) = 0 := by
      by_cases z : 0 < mcP (aL (bA X)) t 14 a (2 ^ a)
      · have h1 := mc_ds il xb 14 a _ ha z
        have h2 := (rt_ne xb ha hr'.1).mp hr'.2
        exact absurd ((nx_none xb ha hr'.1).mp h2) h1
      · omega
    rw [qRL_no n12 ha ht hr', h0]
    refine ⟨fun z => absurd z (by decide), fun _ => ⟨fun z => absurd rfl z, fun _ => ⟨fun z => absurd rfl z, fun _ => lw_routeLengthByPaths c.r ?_⟩⟩⟩
    rw [qRL_no n12 ha ht hr']
    refine ⟨fun z => absurd rfl z, fun _ => lw_routeBlock c.r ?_⟩
    rw [qRB_no n12 ha ht hr']
    exact ⟨fun z => absurd rfl z, fun _ => k1⟩
end ROU
