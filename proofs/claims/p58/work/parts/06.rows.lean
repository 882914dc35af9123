/-! ROWS: one an instruction -/
def lput (q : Nat × Value) : List (Nat × Value) → List (Nat × Value)
  | [] => [q]
  | r :: t => if r.1 < q.1 then r :: lput q t else q :: r :: t
theorem lput_mem {q x : Nat × Value} : ∀ {l : List (Nat × Value)}, x ∈ lput q l → x = q ∨ x ∈ l
  | [], h => Or.inl (List.mem_singleton.mp h)
  | r :: t, h => by
    unfold lput at h
    split at h
    · rcases List.mem_cons.mp h with h | h
      · exact Or.inr (by rw [h]; exact List.mem_cons_self)
      · rcases lput_mem h with h | h
        · exact Or.inl h
        · exact Or.inr (List.mem_cons_of_mem _ h)
    · rcases List.mem_cons.mp h with h | h
      · exact Or.inl h
      · exact Or.inr h
def lset (ls : List (Nat × Value)) (i : Nat) (v : Value) : List (Nat × Value) := lput (i, v) (ls.filter (fun q => !(q.1 == i) && !(q.1 + 1 == i && q.2.category == 2)))
def lset2 (ls : List (Nat × Value)) (i : Nat) (v : Value) : List (Nat × Value) := lput (i, v) (ls.filter (fun q => !(q.1 == i) && (!(q.1 == i + 1) && !(q.1 + 1 == i && q.2.category == 2))))
theorem lset_has {la : Array Slot} {nL i : Nat} {ad : Nat → Nat} {ls ls' : List (Nat × Value)} {v : Value} (h : lv_has la nL ((i, cv ad v) :: (cvl ad ls).filter (fun q => !(q.1 == i) && !(q.1 + 1 == i && q.2.category == 2)))) (e : lset ls i v = ls') : lv_has la nL (cvl ad ls') := by
  subst e
  refine ⟨h.1, h.2.1, fun q hq => h.2.2 q ?_⟩
  obtain ⟨x, hx, rfl⟩ := List.mem_map.mp hq
  rcases lput_mem hx with rfl | hx
  · exact List.mem_cons_self
  · obtain ⟨h1, h2⟩ := List.mem_filter.mp hx
    refine List.mem_cons_of_mem _ (List.mem_filter.mpr ⟨List.mem_map.mpr ⟨x, h1, rfl⟩, ?_⟩)
    simp only [cv_cat]
    exact h2
theorem lset2_has {la : Array Slot} {nL i : Nat} {ad : Nat → Nat} {ls ls' : List (Nat × Value)} {v : Value} (h : lv_has la nL ((i, cv ad v) :: (cvl ad ls).filter (fun q => !(q.1 == i) && (!(q.1 == i + 1) && !(q.1 + 1 == i && q.2.category == 2))))) (e : lset2 ls i v = ls') : lv_has la nL (cvl ad ls') := by
  subst e
  refine ⟨h.1, h.2.1, fun q hq => h.2.2 q ?_⟩
  obtain ⟨x, hx, rfl⟩ := List.mem_map.mp hq
  rcases lput_mem hx with rfl | hx
  · exact List.mem_cons_self
  · obtain ⟨h1, h2⟩ := List.mem_filter.mp hx
    refine List.mem_cons_of_mem _ (List.mem_filter.mpr ⟨List.mem_map.mpr ⟨x, h1, rfl⟩, ?_⟩)
    simp only [cv_cat]
    exact h2
theorem lset_ok {h : AH} {ls ls' : List (Nat × Value)} {i : Nat} {v : Value} (hls : ∀ q ∈ ls, vok h q.2) (hv : vok h v) (e : lset ls i v = ls') : ∀ q ∈ ls', vok h q.2 := by
  subst e
  intro q hq
  rcases lput_mem hq with rfl | hq
  · exact hv
  · exact hls q (List.mem_filter.mp hq).1
theorem lset2_ok {h : AH} {ls ls' : List (Nat × Value)} {i : Nat} {v : Value} (hls : ∀ q ∈ ls, vok h q.2) (hv : vok h v) (e : lset2 ls i v = ls') : ∀ q ∈ ls', vok h q.2 := by
  subst e
  intro q hq
  rcases lput_mem hq with rfl | hq
  · exact hv
  · exact hls q (List.mem_filter.mp hq).1
theorem cvl_at {la : Array Slot} {nL k i : Nat} {ad : Nat → Nat} {ls : List (Nat × Value)} {v : Value} (h : lv_has la nL (cvl ad ls)) (hk : ls[k]? = some (i, v)) : la[i]? = some (.val (cv ad v)) :=
  lv_at h k (by unfold cvl; rw [List.getElem?_map, hk]; rfl)
theorem cv_ref {ad : Nat → Nat} {a : Nat} (h : a ≠ 0) : cv ad (.ref a) = .ref (ad a) := by unfold cv; simp only [h, if_false]
/-- fewer places known -/
theorem X_sub {M : Mt} {lv : Nat} {K : Option Value → AH → Prop} {T : String → AH → Prop} {rc rs pc : Nat} {ls : List (Nat × Value)} {st : List Value} {h : AH} {ls' : List (Nat × Value)} (hsub : ∀ q ∈ ls', q ∈ ls) (k : X M lv K T rc rs pc ls' st h) : X M lv K T rc rs pc ls st h := by
  intro p l e R s m args below meth c D tc A n0 ad0 h0 Q ad H locs cells slots la C hR hE hst hls hla hc hs eR eT
  obtain ⟨hx, hb, hml, hret, hts, hown, hlk, htab, hns, hini, hfr, hlo⟩ := id C
  exact k p l e R s m args below meth c D tc A n0 ad0 h0 Q ad H locs cells slots la C hR hE hst (fun q hq => hls q (hsub q hq)) ⟨hla.1, hla.2.1, fun q hq => by
    obtain ⟨x, hx, rfl⟩ := List.mem_map.mp hq
    exact hla.2.2 _ (List.mem_map.mpr ⟨x, hsub x hx, rfl⟩)⟩ hc hs eR eT
/-- less room -/
theorem X_room {M : Mt} {lv : Nat} {K : Option Value → AH → Prop} {T : String → AH → Prop} {rc rs pc : Nat} {ls : List (Nat × Value)} {st : List Value} {h : AH} {rc' rs' : Nat} (h1 : rc' ≤ rc) (h2 : rs' ≤ rs) (k : X M lv K T rc' rs' pc ls st h) : X M lv K T rc rs pc ls st h := by
  intro p l e R s m args below meth c D tc A n0 ad0 h0 Q ad H locs cells slots la C hR hE hst hls hla hc hs eR eT
  obtain ⟨hx, hb, hml, hret, hts, hown, hlk, htab, hns, hini, hfr, hlo⟩ := id C
  exact k p l e R s m args below meth c D tc A n0 ad0 h0 Q ad H locs cells slots la C hR hE hst hls hla (by omega) (by omega) eR eT

theorem X_iconst {M : Mt} {lv : Nat} {K : Option Value → AH → Prop} {T : String → AH → Prop} {rc rs pc : Nat} {ls : List (Nat × Value)} {st : List Value} {h : AH} {n : Int} {v : Int32} (hd : decode M.2.1 pc = .ok (.iconst n, 1)) (hv : Int32.ofInt n = v) (k : X M lv K T rc rs (pc + 1) ls (.int v :: st) h) : X M lv K T rc rs pc ls (st) h := by
  intro p l e R s m args below meth c D tc A n0 ad0 h0 Q ad H locs cells slots la C hR hE hst hls hla hc hs eR eT
  obtain ⟨hx, hb, hml, hret, hts, hown, hlk, htab, hns, hini, hfr, hlo⟩ := id C
  exact lv_iconst hx hb hd hv (k p l e R s m args below meth c D tc A n0 ad0 h0 Q ad H locs cells slots la C hR hE (List.forall_mem_cons.mpr ⟨trivial, (fun v hv => hst v hv)⟩) hls hla hc hs eR eT)
theorem X_bipush {M : Mt} {lv : Nat} {K : Option Value → AH → Prop} {T : String → AH → Prop} {rc rs pc : Nat} {ls : List (Nat × Value)} {st : List Value} {h : AH} {n : Int} {v : Int32} (hd : decode M.2.1 pc = .ok (.bipush n, 2)) (hv : (Int8.ofInt n).toInt32 = v) (k : X M lv K T rc rs (pc + 2) ls (.int v :: st) h) : X M lv K T rc rs pc ls (st) h := by
  intro p l e R s m args below meth c D tc A n0 ad0 h0 Q ad H locs cells slots la C hR hE hst hls hla hc hs eR eT
  obtain ⟨hx, hb, hml, hret, hts, hown, hlk, htab, hns, hini, hfr, hlo⟩ := id C
  exact lv_bipush hx hb hd hv (k p l e R s m args below meth c D tc A n0 ad0 h0 Q ad H locs cells slots la C hR hE (List.forall_mem_cons.mpr ⟨trivial, (fun v hv => hst v hv)⟩) hls hla hc hs eR eT)
theorem X_sipush {M : Mt} {lv : Nat} {K : Option Value → AH → Prop} {T : String → AH → Prop} {rc rs pc : Nat} {ls : List (Nat × Value)} {st : List Value} {h : AH} {n : Int} {v : Int32} (hd : decode M.2.1 pc = .ok (.sipush n, 3)) (hv : (Int16.ofInt n).toInt32 = v) (k : X M lv K T rc rs (pc + 3) ls (.int v :: st) h) : X M lv K T rc rs pc ls (st) h := by
  intro p l e R s m args below meth c D tc A n0 ad0 h0 Q ad H locs cells slots la C hR hE hst hls hla hc hs eR eT
  obtain ⟨hx, hb, hml, hret, hts, hown, hlk, htab, hns, hini, hfr, hlo⟩ := id C
  exact lv_sipush hx hb hd hv (k p l e R s m args below meth c D tc A n0 ad0 h0 Q ad H locs cells slots la C hR hE (List.forall_mem_cons.mpr ⟨trivial, (fun v hv => hst v hv)⟩) hls hla hc hs eR eT)
theorem X_lconst {M : Mt} {lv : Nat} {K : Option Value → AH → Prop} {T : String → AH → Prop} {rc rs pc : Nat} {ls : List (Nat × Value)} {st : List Value} {h : AH} {n : Fin 2} {v : Int64} (hd : decode M.2.1 pc = .ok (.lconst n, 1)) (hv : Int64.ofNat (n : Nat) = v) (k : X M lv K T rc rs (pc + 1) ls (.long v :: st) h) : X M lv K T rc rs pc ls (st) h := by
  intro p l e R s m args below meth c D tc A n0 ad0 h0 Q ad H locs cells slots la C hR hE hst hls hla hc hs eR eT
  obtain ⟨hx, hb, hml, hret, hts, hown, hlk, htab, hns, hini, hfr, hlo⟩ := id C
  exact lv_lconst hx hb hd hv (k p l e R s m args below meth c D tc A n0 ad0 h0 Q ad H locs cells slots la C hR hE (List.forall_mem_cons.mpr ⟨trivial, (fun v hv => hst v hv)⟩) hls hla hc hs eR eT)
theorem X_fconst0 {M : Mt} {lv : Nat} {K : Option Value → AH → Prop} {T : String → AH → Prop} {rc rs pc : Nat} {ls : List (Nat × Value)} {st : List Value} {h : AH}  (hd : decode M.2.1 pc = .ok (.fconst 0, 1)) (k : X M lv K T rc rs (pc + 1) ls (.float FP.fconst0 :: st) h) : X M lv K T rc rs pc ls (st) h := by
  intro p l e R s m args below meth c D tc A n0 ad0 h0 Q ad H locs cells slots la C hR hE hst hls hla hc hs eR eT
  obtain ⟨hx, hb, hml, hret, hts, hown, hlk, htab, hns, hini, hfr, hlo⟩ := id C
  exact lv_fconst0 hx hb hd (k p l e R s m args below meth c D tc A n0 ad0 h0 Q ad H locs cells slots la C hR hE (List.forall_mem_cons.mpr ⟨trivial, (fun v hv => hst v hv)⟩) hls hla hc hs eR eT)
theorem X_dconst0 {M : Mt} {lv : Nat} {K : Option Value → AH → Prop} {T : String → AH → Prop} {rc rs pc : Nat} {ls : List (Nat × Value)} {st : List Value} {h : AH}  (hd : decode M.2.1 pc = .ok (.dconst 0, 1)) (k : X M lv K T rc rs (pc + 1) ls (.double FP.dconst0 :: st) h) : X M lv K T rc rs pc ls (st) h := by
  intro p l e R s m args below meth c D tc A n0 ad0 h0 Q ad H locs cells slots la C hR hE hst hls hla hc hs eR eT
  obtain ⟨hx, hb, hml, hret, hts, hown, hlk, htab, hns, hini, hfr, hlo⟩ := id C
  exact lv_dconst0 hx hb hd (k p l e R s m args below meth c D tc A n0 ad0 h0 Q ad H locs cells slots la C hR hE (List.forall_mem_cons.mpr ⟨trivial, (fun v hv => hst v hv)⟩) hls hla hc hs eR eT)
theorem X_ldcw {M : Mt} {lv : Nat} {K : Option Value → AH → Prop} {T : String → AH → Prop} {rc rs pc : Nat} {ls : List (Nat × Value)} {st : List Value} {h : AH} {n : Nat} {v : Int32} (hd : decode M.2.1 pc = .ok (.ldc_w n, 3)) (hw : Cond.constant M.1.cls n v ∈ gw) (k : X M lv K T rc rs (pc + 3) ls (.int v :: st) h) : X M lv K T rc rs pc ls (st) h := by
  intro p l e R s m args below meth c D tc A n0 ad0 h0 Q ad H locs cells slots la C hR hE hst hls hla hc hs eR eT
  obtain ⟨hx, hb, hml, hret, hts, hown, hlk, htab, hns, hini, hfr, hlo⟩ := id C
  exact lv_ldcw hx hb hown (hts _ hw) hd (k p l e R s m args below meth c D tc A n0 ad0 h0 Q ad H locs cells slots la C hR hE (List.forall_mem_cons.mpr ⟨trivial, (fun v hv => hst v hv)⟩) hls hla hc hs eR eT)
theorem X_ldc {M : Mt} {lv : Nat} {K : Option Value → AH → Prop} {T : String → AH → Prop} {rc rs pc : Nat} {ls : List (Nat × Value)} {st : List Value} {h : AH} {n : Nat} {v : Int32} (hd : decode M.2.1 pc = .ok (.ldc n, 2)) (hw : Cond.constant M.1.cls n v ∈ gw) (k : X M lv K T rc rs (pc + 2) ls (.int v :: st) h) : X M lv K T rc rs pc ls (st) h := by
  intro p l e R s m args below meth c D tc A n0 ad0 h0 Q ad H locs cells slots la C hR hE hst hls hla hc hs eR eT
  obtain ⟨hx, hb, hml, hret, hts, hown, hlk, htab, hns, hini, hfr, hlo⟩ := id C
  exact lv_ldc hx hb hown (hts _ hw) hd (k p l e R s m args below meth c D tc A n0 ad0 h0 Q ad H locs cells slots la C hR hE (List.forall_mem_cons.mpr ⟨trivial, (fun v hv => hst v hv)⟩) hls hla hc hs eR eT)
theorem X_aconst_null {M : Mt} {lv : Nat} {K : Option Value → AH → Prop} {T : String → AH → Prop} {rc rs pc : Nat} {ls : List (Nat × Value)} {st : List Value} {h : AH}  (hd : decode M.2.1 pc = .ok (.aconst_null, 1)) (k : X M lv K T rc rs (pc + 1) ls (.ref 0 :: st) h) : X M lv K T rc rs pc ls (st) h := by
  intro p l e R s m args below meth c D tc A n0 ad0 h0 Q ad H locs cells slots la C hR hE hst hls hla hc hs eR eT
  obtain ⟨hx, hb, hml, hret, hts, hown, hlk, htab, hns, hini, hfr, hlo⟩ := id C
  exact lv_null hx hb hd (k p l e R s m args below meth c D tc A n0 ad0 h0 Q ad H locs cells slots la C hR hE (List.forall_mem_cons.mpr ⟨(Nat.lt_of_lt_of_le (by decide) hR.2.2.2.2.2.2.1), (fun v hv => hst v hv)⟩) hls hla hc hs eR eT)
theorem X_iload_n {M : Mt} {lv : Nat} {K : Option Value → AH → Prop} {T : String → AH → Prop} {rc rs pc : Nat} {ls : List (Nat × Value)} {st : List Value} {h : AH} {k0 : Fin 4} {j i : Nat} {x : Int32} (hd : decode M.2.1 pc = .ok (.iload_n k0, 1)) (hi : (k0 : Nat) = i) (hj : ls[j]? = some (i, .int x)) (k : X M lv K T rc rs (pc + 1) ls (.int x :: st) h) : X M lv K T rc rs pc ls (st) h := by
  intro p l e R s m args below meth c D tc A n0 ad0 h0 Q ad H locs cells slots la C hR hE hst hls hla hc hs eR eT
  obtain ⟨hx, hb, hml, hret, hts, hown, hlk, htab, hns, hini, hfr, hlo⟩ := id C
  exact lv_iload_n hx hb hd hi (cvl_at hla hj) (k p l e R s m args below meth c D tc A n0 ad0 h0 Q ad H locs cells slots la C hR hE (List.forall_mem_cons.mpr ⟨trivial, (fun v hv => hst v hv)⟩) hls hla hc hs eR eT)
theorem X_iload {M : Mt} {lv : Nat} {K : Option Value → AH → Prop} {T : String → AH → Prop} {rc rs pc : Nat} {ls : List (Nat × Value)} {st : List Value} {h : AH} {j i : Nat} {x : Int32} (hd : decode M.2.1 pc = .ok (.iload i, 2)) (hj : ls[j]? = some (i, .int x)) (k : X M lv K T rc rs (pc + 2) ls (.int x :: st) h) : X M lv K T rc rs pc ls (st) h := by
  intro p l e R s m args below meth c D tc A n0 ad0 h0 Q ad H locs cells slots la C hR hE hst hls hla hc hs eR eT
  obtain ⟨hx, hb, hml, hret, hts, hown, hlk, htab, hns, hini, hfr, hlo⟩ := id C
  exact lv_iload hx hb hd (cvl_at hla hj) (k p l e R s m args below meth c D tc A n0 ad0 h0 Q ad H locs cells slots la C hR hE (List.forall_mem_cons.mpr ⟨trivial, (fun v hv => hst v hv)⟩) hls hla hc hs eR eT)
theorem X_istore_n {M : Mt} {lv : Nat} {K : Option Value → AH → Prop} {T : String → AH → Prop} {rc rs pc : Nat} {ls : List (Nat × Value)} {st : List Value} {h : AH} {k0 : Fin 4} {i : Nat} {x : Int32} {ls' : List (Nat × Value)} (hd : decode M.2.1 pc = .ok (.istore_n k0, 1)) (hi : (k0 : Nat) = i) (hn : i < M.2.2.1) (hl : lset ls i (.int x) = ls') (k : X M lv K T rc rs (pc + 1) ls' st h) : X M lv K T rc rs pc ls (.int x :: st) h := by
  intro p l e R s m args below meth c D tc A n0 ad0 h0 Q ad H locs cells slots la C hR hE hst hls hla hc hs eR eT
  obtain ⟨hx, hb, hml, hret, hts, hown, hlk, htab, hns, hini, hfr, hlo⟩ := id C
  exact lv_istore_n hx hb hd hi hla hn rfl (fun la' hla' => (k p l e R s m args below meth c D tc A n0 ad0 h0 Q ad H locs cells slots la' C hR hE (fun v hv => hst v (List.mem_cons_of_mem _ hv)) (lset_ok (v := .int x) hls trivial hl) (lset_has (v := .int x) hla' hl) hc hs eR eT))
theorem X_istore {M : Mt} {lv : Nat} {K : Option Value → AH → Prop} {T : String → AH → Prop} {rc rs pc : Nat} {ls : List (Nat × Value)} {st : List Value} {h : AH} {i : Nat} {x : Int32} {ls' : List (Nat × Value)} (hd : decode M.2.1 pc = .ok (.istore i, 2)) (hn : i < M.2.2.1) (hl : lset ls i (.int x) = ls') (k : X M lv K T rc rs (pc + 2) ls' st h) : X M lv K T rc rs pc ls (.int x :: st) h := by
  intro p l e R s m args below meth c D tc A n0 ad0 h0 Q ad H locs cells slots la C hR hE hst hls hla hc hs eR eT
  obtain ⟨hx, hb, hml, hret, hts, hown, hlk, htab, hns, hini, hfr, hlo⟩ := id C
  exact lv_istore hx hb hd hla hn rfl (fun la' hla' => (k p l e R s m args below meth c D tc A n0 ad0 h0 Q ad H locs cells slots la' C hR hE (fun v hv => hst v (List.mem_cons_of_mem _ hv)) (lset_ok (v := .int x) hls trivial hl) (lset_has (v := .int x) hla' hl) hc hs eR eT))
theorem X_lload_n {M : Mt} {lv : Nat} {K : Option Value → AH → Prop} {T : String → AH → Prop} {rc rs pc : Nat} {ls : List (Nat × Value)} {st : List Value} {h : AH} {k0 : Fin 4} {j i : Nat} {x : Int64} (hd : decode M.2.1 pc = .ok (.lload_n k0, 1)) (hi : (k0 : Nat) = i) (hj : ls[j]? = some (i, .long x)) (k : X M lv K T rc rs (pc + 1) ls (.long x :: st) h) : X M lv K T rc rs pc ls (st) h := by
  intro p l e R s m args below meth c D tc A n0 ad0 h0 Q ad H locs cells slots la C hR hE hst hls hla hc hs eR eT
  obtain ⟨hx, hb, hml, hret, hts, hown, hlk, htab, hns, hini, hfr, hlo⟩ := id C
  exact lv_lload_n hx hb hd hi (cvl_at hla hj) (k p l e R s m args below meth c D tc A n0 ad0 h0 Q ad H locs cells slots la C hR hE (List.forall_mem_cons.mpr ⟨trivial, (fun v hv => hst v hv)⟩) hls hla hc hs eR eT)
theorem X_lload {M : Mt} {lv : Nat} {K : Option Value → AH → Prop} {T : String → AH → Prop} {rc rs pc : Nat} {ls : List (Nat × Value)} {st : List Value} {h : AH} {j i : Nat} {x : Int64} (hd : decode M.2.1 pc = .ok (.lload i, 2)) (hj : ls[j]? = some (i, .long x)) (k : X M lv K T rc rs (pc + 2) ls (.long x :: st) h) : X M lv K T rc rs pc ls (st) h := by
  intro p l e R s m args below meth c D tc A n0 ad0 h0 Q ad H locs cells slots la C hR hE hst hls hla hc hs eR eT
  obtain ⟨hx, hb, hml, hret, hts, hown, hlk, htab, hns, hini, hfr, hlo⟩ := id C
  exact lv_lload hx hb hd (cvl_at hla hj) (k p l e R s m args below meth c D tc A n0 ad0 h0 Q ad H locs cells slots la C hR hE (List.forall_mem_cons.mpr ⟨trivial, (fun v hv => hst v hv)⟩) hls hla hc hs eR eT)
theorem X_lstore_n {M : Mt} {lv : Nat} {K : Option Value → AH → Prop} {T : String → AH → Prop} {rc rs pc : Nat} {ls : List (Nat × Value)} {st : List Value} {h : AH} {k0 : Fin 4} {i : Nat} {x : Int64} {ls' : List (Nat × Value)} (hd : decode M.2.1 pc = .ok (.lstore_n k0, 1)) (hi : (k0 : Nat) = i) (hn : i + 1 < M.2.2.1) (hl : lset2 ls i (.long x) = ls') (k : X M lv K T rc rs (pc + 1) ls' st h) : X M lv K T rc rs pc ls (.long x :: st) h := by
  intro p l e R s m args below meth c D tc A n0 ad0 h0 Q ad H locs cells slots la C hR hE hst hls hla hc hs eR eT
  obtain ⟨hx, hb, hml, hret, hts, hown, hlk, htab, hns, hini, hfr, hlo⟩ := id C
  exact lv_lstore_n hx hb hd hi hla hn rfl (fun la' hla' => (k p l e R s m args below meth c D tc A n0 ad0 h0 Q ad H locs cells slots la' C hR hE (fun v hv => hst v (List.mem_cons_of_mem _ hv)) (lset2_ok (v := .long x) hls trivial hl) (lset2_has (v := .long x) hla' hl) hc hs eR eT))
theorem X_lstore {M : Mt} {lv : Nat} {K : Option Value → AH → Prop} {T : String → AH → Prop} {rc rs pc : Nat} {ls : List (Nat × Value)} {st : List Value} {h : AH} {i : Nat} {x : Int64} {ls' : List (Nat × Value)} (hd : decode M.2.1 pc = .ok (.lstore i, 2)) (hn : i + 1 < M.2.2.1) (hl : lset2 ls i (.long x) = ls') (k : X M lv K T rc rs (pc + 2) ls' st h) : X M lv K T rc rs pc ls (.long x :: st) h := by
  intro p l e R s m args below meth c D tc A n0 ad0 h0 Q ad H locs cells slots la C hR hE hst hls hla hc hs eR eT
  obtain ⟨hx, hb, hml, hret, hts, hown, hlk, htab, hns, hini, hfr, hlo⟩ := id C
  exact lv_lstore hx hb hd hla hn rfl (fun la' hla' => (k p l e R s m args below meth c D tc A n0 ad0 h0 Q ad H locs cells slots la' C hR hE (fun v hv => hst v (List.mem_cons_of_mem _ hv)) (lset2_ok (v := .long x) hls trivial hl) (lset2_has (v := .long x) hla' hl) hc hs eR eT))
theorem X_fload_n {M : Mt} {lv : Nat} {K : Option Value → AH → Prop} {T : String → AH → Prop} {rc rs pc : Nat} {ls : List (Nat × Value)} {st : List Value} {h : AH} {k0 : Fin 4} {j i : Nat} {x : UInt32} (hd : decode M.2.1 pc = .ok (.fload_n k0, 1)) (hi : (k0 : Nat) = i) (hj : ls[j]? = some (i, .float x)) (k : X M lv K T rc rs (pc + 1) ls (.float x :: st) h) : X M lv K T rc rs pc ls (st) h := by
  intro p l e R s m args below meth c D tc A n0 ad0 h0 Q ad H locs cells slots la C hR hE hst hls hla hc hs eR eT
  obtain ⟨hx, hb, hml, hret, hts, hown, hlk, htab, hns, hini, hfr, hlo⟩ := id C
  exact lv_fload_n hx hb hd hi (cvl_at hla hj) (k p l e R s m args below meth c D tc A n0 ad0 h0 Q ad H locs cells slots la C hR hE (List.forall_mem_cons.mpr ⟨trivial, (fun v hv => hst v hv)⟩) hls hla hc hs eR eT)
theorem X_fload {M : Mt} {lv : Nat} {K : Option Value → AH → Prop} {T : String → AH → Prop} {rc rs pc : Nat} {ls : List (Nat × Value)} {st : List Value} {h : AH} {j i : Nat} {x : UInt32} (hd : decode M.2.1 pc = .ok (.fload i, 2)) (hj : ls[j]? = some (i, .float x)) (k : X M lv K T rc rs (pc + 2) ls (.float x :: st) h) : X M lv K T rc rs pc ls (st) h := by
  intro p l e R s m args below meth c D tc A n0 ad0 h0 Q ad H locs cells slots la C hR hE hst hls hla hc hs eR eT
  obtain ⟨hx, hb, hml, hret, hts, hown, hlk, htab, hns, hini, hfr, hlo⟩ := id C
  exact lv_fload hx hb hd (cvl_at hla hj) (k p l e R s m args below meth c D tc A n0 ad0 h0 Q ad H locs cells slots la C hR hE (List.forall_mem_cons.mpr ⟨trivial, (fun v hv => hst v hv)⟩) hls hla hc hs eR eT)
theorem X_fstore_n {M : Mt} {lv : Nat} {K : Option Value → AH → Prop} {T : String → AH → Prop} {rc rs pc : Nat} {ls : List (Nat × Value)} {st : List Value} {h : AH} {k0 : Fin 4} {i : Nat} {x : UInt32} {ls' : List (Nat × Value)} (hd : decode M.2.1 pc = .ok (.fstore_n k0, 1)) (hi : (k0 : Nat) = i) (hn : i < M.2.2.1) (hl : lset ls i (.float x) = ls') (k : X M lv K T rc rs (pc + 1) ls' st h) : X M lv K T rc rs pc ls (.float x :: st) h := by
  intro p l e R s m args below meth c D tc A n0 ad0 h0 Q ad H locs cells slots la C hR hE hst hls hla hc hs eR eT
  obtain ⟨hx, hb, hml, hret, hts, hown, hlk, htab, hns, hini, hfr, hlo⟩ := id C
  exact lv_fstore_n hx hb hd hi hla hn rfl (fun la' hla' => (k p l e R s m args below meth c D tc A n0 ad0 h0 Q ad H locs cells slots la' C hR hE (fun v hv => hst v (List.mem_cons_of_mem _ hv)) (lset_ok (v := .float x) hls trivial hl) (lset_has (v := .float x) hla' hl) hc hs eR eT))
theorem X_fstore {M : Mt} {lv : Nat} {K : Option Value → AH → Prop} {T : String → AH → Prop} {rc rs pc : Nat} {ls : List (Nat × Value)} {st : List Value} {h : AH} {i : Nat} {x : UInt32} {ls' : List (Nat × Value)} (hd : decode M.2.1 pc = .ok (.fstore i, 2)) (hn : i < M.2.2.1) (hl : lset ls i (.float x) = ls') (k : X M lv K T rc rs (pc + 2) ls' st h) : X M lv K T rc rs pc ls (.float x :: st) h := by
  intro p l e R s m args below meth c D tc A n0 ad0 h0 Q ad H locs cells slots la C hR hE hst hls hla hc hs eR eT
  obtain ⟨hx, hb, hml, hret, hts, hown, hlk, htab, hns, hini, hfr, hlo⟩ := id C
  exact lv_fstore hx hb hd hla hn rfl (fun la' hla' => (k p l e R s m args below meth c D tc A n0 ad0 h0 Q ad H locs cells slots la' C hR hE (fun v hv => hst v (List.mem_cons_of_mem _ hv)) (lset_ok (v := .float x) hls trivial hl) (lset_has (v := .float x) hla' hl) hc hs eR eT))
theorem X_dload_n {M : Mt} {lv : Nat} {K : Option Value → AH → Prop} {T : String → AH → Prop} {rc rs pc : Nat} {ls : List (Nat × Value)} {st : List Value} {h : AH} {k0 : Fin 4} {j i : Nat} {x : UInt64} (hd : decode M.2.1 pc = .ok (.dload_n k0, 1)) (hi : (k0 : Nat) = i) (hj : ls[j]? = some (i, .double x)) (k : X M lv K T rc rs (pc + 1) ls (.double x :: st) h) : X M lv K T rc rs pc ls (st) h := by
  intro p l e R s m args below meth c D tc A n0 ad0 h0 Q ad H locs cells slots la C hR hE hst hls hla hc hs eR eT
  obtain ⟨hx, hb, hml, hret, hts, hown, hlk, htab, hns, hini, hfr, hlo⟩ := id C
  exact lv_dload_n hx hb hd hi (cvl_at hla hj) (k p l e R s m args below meth c D tc A n0 ad0 h0 Q ad H locs cells slots la C hR hE (List.forall_mem_cons.mpr ⟨trivial, (fun v hv => hst v hv)⟩) hls hla hc hs eR eT)
theorem X_dload {M : Mt} {lv : Nat} {K : Option Value → AH → Prop} {T : String → AH → Prop} {rc rs pc : Nat} {ls : List (Nat × Value)} {st : List Value} {h : AH} {j i : Nat} {x : UInt64} (hd : decode M.2.1 pc = .ok (.dload i, 2)) (hj : ls[j]? = some (i, .double x)) (k : X M lv K T rc rs (pc + 2) ls (.double x :: st) h) : X M lv K T rc rs pc ls (st) h := by
  intro p l e R s m args below meth c D tc A n0 ad0 h0 Q ad H locs cells slots la C hR hE hst hls hla hc hs eR eT
  obtain ⟨hx, hb, hml, hret, hts, hown, hlk, htab, hns, hini, hfr, hlo⟩ := id C
  exact lv_dload hx hb hd (cvl_at hla hj) (k p l e R s m args below meth c D tc A n0 ad0 h0 Q ad H locs cells slots la C hR hE (List.forall_mem_cons.mpr ⟨trivial, (fun v hv => hst v hv)⟩) hls hla hc hs eR eT)
theorem X_dstore_n {M : Mt} {lv : Nat} {K : Option Value → AH → Prop} {T : String → AH → Prop} {rc rs pc : Nat} {ls : List (Nat × Value)} {st : List Value} {h : AH} {k0 : Fin 4} {i : Nat} {x : UInt64} {ls' : List (Nat × Value)} (hd : decode M.2.1 pc = .ok (.dstore_n k0, 1)) (hi : (k0 : Nat) = i) (hn : i + 1 < M.2.2.1) (hl : lset2 ls i (.double x) = ls') (k : X M lv K T rc rs (pc + 1) ls' st h) : X M lv K T rc rs pc ls (.double x :: st) h := by
  intro p l e R s m args below meth c D tc A n0 ad0 h0 Q ad H locs cells slots la C hR hE hst hls hla hc hs eR eT
  obtain ⟨hx, hb, hml, hret, hts, hown, hlk, htab, hns, hini, hfr, hlo⟩ := id C
  exact lv_dstore_n hx hb hd hi hla hn rfl (fun la' hla' => (k p l e R s m args below meth c D tc A n0 ad0 h0 Q ad H locs cells slots la' C hR hE (fun v hv => hst v (List.mem_cons_of_mem _ hv)) (lset2_ok (v := .double x) hls trivial hl) (lset2_has (v := .double x) hla' hl) hc hs eR eT))
theorem X_dstore {M : Mt} {lv : Nat} {K : Option Value → AH → Prop} {T : String → AH → Prop} {rc rs pc : Nat} {ls : List (Nat × Value)} {st : List Value} {h : AH} {i : Nat} {x : UInt64} {ls' : List (Nat × Value)} (hd : decode M.2.1 pc = .ok (.dstore i, 2)) (hn : i + 1 < M.2.2.1) (hl : lset2 ls i (.double x) = ls') (k : X M lv K T rc rs (pc + 2) ls' st h) : X M lv K T rc rs pc ls (.double x :: st) h := by
  intro p l e R s m args below meth c D tc A n0 ad0 h0 Q ad H locs cells slots la C hR hE hst hls hla hc hs eR eT
  obtain ⟨hx, hb, hml, hret, hts, hown, hlk, htab, hns, hini, hfr, hlo⟩ := id C
  exact lv_dstore hx hb hd hla hn rfl (fun la' hla' => (k p l e R s m args below meth c D tc A n0 ad0 h0 Q ad H locs cells slots la' C hR hE (fun v hv => hst v (List.mem_cons_of_mem _ hv)) (lset2_ok (v := .double x) hls trivial hl) (lset2_has (v := .double x) hla' hl) hc hs eR eT))
theorem X_aload_n {M : Mt} {lv : Nat} {K : Option Value → AH → Prop} {T : String → AH → Prop} {rc rs pc : Nat} {ls : List (Nat × Value)} {st : List Value} {h : AH} {k0 : Fin 4} {j i a : Nat} (hd : decode M.2.1 pc = .ok (.aload_n k0, 1)) (hi : (k0 : Nat) = i) (hj : ls[j]? = some (i, .ref a)) (k : X M lv K T rc rs (pc + 1) ls (.ref a :: st) h) : X M lv K T rc rs pc ls st h := by
  intro p l e R s m args below meth c D tc A n0 ad0 h0 Q ad H locs cells slots la C hR hE hst hls hla hc hs eR eT
  obtain ⟨hx, hb, hml, hret, hts, hown, hlk, htab, hns, hini, hfr, hlo⟩ := id C
  have k9 := (k p l e R s m args below meth c D tc A n0 ad0 h0 Q ad H locs cells slots la C hR hE (List.forall_mem_cons.mpr ⟨hls _ (List.mem_of_getElem? hj), hst⟩) hls hla hc hs eR eT)
  have h9 := cvl_at hla hj
  rw [List.map_cons] at k9
  by_cases z : a = 0
  · subst z
    exact lv_aload_nN hx hb hd hi h9 k9
  · rw [cv_ref z] at k9 h9
    exact lv_aload_n hx hb hd hi h9 k9
theorem X_aload {M : Mt} {lv : Nat} {K : Option Value → AH → Prop} {T : String → AH → Prop} {rc rs pc : Nat} {ls : List (Nat × Value)} {st : List Value} {h : AH} {j i a : Nat} (hd : decode M.2.1 pc = .ok (.aload i, 2)) (hj : ls[j]? = some (i, .ref a)) (k : X M lv K T rc rs (pc + 2) ls (.ref a :: st) h) : X M lv K T rc rs pc ls st h := by
  intro p l e R s m args below meth c D tc A n0 ad0 h0 Q ad H locs cells slots la C hR hE hst hls hla hc hs eR eT
  obtain ⟨hx, hb, hml, hret, hts, hown, hlk, htab, hns, hini, hfr, hlo⟩ := id C
  have k9 := (k p l e R s m args below meth c D tc A n0 ad0 h0 Q ad H locs cells slots la C hR hE (List.forall_mem_cons.mpr ⟨hls _ (List.mem_of_getElem? hj), hst⟩) hls hla hc hs eR eT)
  have h9 := cvl_at hla hj
  rw [List.map_cons] at k9
  by_cases z : a = 0
  · subst z
    exact lv_aloadN hx hb hd h9 k9
  · rw [cv_ref z] at k9 h9
    exact lv_aload hx hb hd h9 k9
theorem X_astore_n {M : Mt} {lv : Nat} {K : Option Value → AH → Prop} {T : String → AH → Prop} {rc rs pc : Nat} {ls : List (Nat × Value)} {st : List Value} {h : AH} {k0 : Fin 4} {i a : Nat} {ls' : List (Nat × Value)} (hd : decode M.2.1 pc = .ok (.astore_n k0, 1)) (hi : (k0 : Nat) = i) (hn : i < M.2.2.1) (hl : lset ls i (.ref a) = ls') (k : X M lv K T rc rs (pc + 1) ls' st h) : X M lv K T rc rs pc ls (.ref a :: st) h := by
  intro p l e R s m args below meth c D tc A n0 ad0 h0 Q ad H locs cells slots la C hR hE hst hls hla hc hs eR eT
  obtain ⟨hx, hb, hml, hret, hts, hown, hlk, htab, hns, hini, hfr, hlo⟩ := id C
  have k9 := fun la' hla' => (k p l e R s m args below meth c D tc A n0 ad0 h0 Q ad H locs cells slots la' C hR hE (fun v hv => hst v (List.mem_cons_of_mem _ hv)) (lset_ok hls (hst _ List.mem_cons_self) hl) (lset_has (v := .ref a) hla' hl) hc hs eR eT)
  rw [List.map_cons]
  by_cases z : a = 0
  · subst z
    exact lv_astore_nN hx hb hd hi hla hn rfl (fun la' hla' => k9 la' hla')
  · rw [cv_ref z] at k9 ⊢
    exact lv_astore_n hx hb hd hi hla hn rfl (fun la' hla' => k9 la' hla')
theorem X_astore {M : Mt} {lv : Nat} {K : Option Value → AH → Prop} {T : String → AH → Prop} {rc rs pc : Nat} {ls : List (Nat × Value)} {st : List Value} {h : AH} {i a : Nat} {ls' : List (Nat × Value)} (hd : decode M.2.1 pc = .ok (.astore i, 2)) (hn : i < M.2.2.1) (hl : lset ls i (.ref a) = ls') (k : X M lv K T rc rs (pc + 2) ls' st h) : X M lv K T rc rs pc ls (.ref a :: st) h := by
  intro p l e R s m args below meth c D tc A n0 ad0 h0 Q ad H locs cells slots la C hR hE hst hls hla hc hs eR eT
  obtain ⟨hx, hb, hml, hret, hts, hown, hlk, htab, hns, hini, hfr, hlo⟩ := id C
  have k9 := fun la' hla' => (k p l e R s m args below meth c D tc A n0 ad0 h0 Q ad H locs cells slots la' C hR hE (fun v hv => hst v (List.mem_cons_of_mem _ hv)) (lset_ok hls (hst _ List.mem_cons_self) hl) (lset_has (v := .ref a) hla' hl) hc hs eR eT)
  rw [List.map_cons]
  by_cases z : a = 0
  · subst z
    exact lv_astoreN hx hb hd hla hn rfl (fun la' hla' => k9 la' hla')
  · rw [cv_ref z] at k9 ⊢
    exact lv_astore hx hb hd hla hn rfl (fun la' hla' => k9 la' hla')
theorem X_iinc {M : Mt} {lv : Nat} {K : Option Value → AH → Prop} {T : String → AH → Prop} {rc rs pc : Nat} {ls : List (Nat × Value)} {st : List Value} {h : AH} {i j : Nat} {n : Int} {x v : Int32} {ls' : List (Nat × Value)} (hd : decode M.2.1 pc = .ok (.iinc i n, 3)) (hj : ls[j]? = some (i, .int x)) (hv : x + Int32.ofInt n = v) (hn : i < M.2.2.1) (hl : lset ls i (.int v) = ls') (k : X M lv K T rc rs (pc + 3) ls' st h) : X M lv K T rc rs pc ls st h := by
  intro p l e R s m args below meth c D tc A n0 ad0 h0 Q ad H locs cells slots la C hR hE hst hls hla hc hs eR eT
  obtain ⟨hx, hb, hml, hret, hts, hown, hlk, htab, hns, hini, hfr, hlo⟩ := id C
  exact lv_iinc hx hb hd hla (k := j) (by unfold cvl; rw [List.getElem?_map, hj]; rfl) hv hn rfl (fun la' hla' => (k p l e R s m args below meth c D tc A n0 ad0 h0 Q ad H locs cells slots la' C hR hE hst (lset_ok (v := .int v) hls trivial hl) (lset_has (v := .int v) hla' hl) hc hs eR eT))
theorem X_iadd {M : Mt} {lv : Nat} {K : Option Value → AH → Prop} {T : String → AH → Prop} {rc rs pc : Nat} {ls : List (Nat × Value)} {st : List Value} {h : AH} {x y : Int32} (hd : decode M.2.1 pc = .ok (.iadd, 1)) (k : X M lv K T rc rs (pc + 1) ls (.int (x + y) :: st) h) : X M lv K T rc rs pc ls (.int y :: .int x :: st) h := by
  intro p l e R s m args below meth c D tc A n0 ad0 h0 Q ad H locs cells slots la C hR hE hst hls hla hc hs eR eT
  obtain ⟨hx, hb, hml, hret, hts, hown, hlk, htab, hns, hini, hfr, hlo⟩ := id C
  exact lv_iadd hx hb hd (k p l e R s m args below meth c D tc A n0 ad0 h0 Q ad H locs cells slots la C hR hE (List.forall_mem_cons.mpr ⟨trivial, (fun v hv => hst v (List.mem_cons_of_mem _ (List.mem_cons_of_mem _ hv)))⟩) hls hla hc hs eR eT)
theorem X_isub {M : Mt} {lv : Nat} {K : Option Value → AH → Prop} {T : String → AH → Prop} {rc rs pc : Nat} {ls : List (Nat × Value)} {st : List Value} {h : AH} {x y : Int32} (hd : decode M.2.1 pc = .ok (.isub, 1)) (k : X M lv K T rc rs (pc + 1) ls (.int (x - y) :: st) h) : X M lv K T rc rs pc ls (.int y :: .int x :: st) h := by
  intro p l e R s m args below meth c D tc A n0 ad0 h0 Q ad H locs cells slots la C hR hE hst hls hla hc hs eR eT
  obtain ⟨hx, hb, hml, hret, hts, hown, hlk, htab, hns, hini, hfr, hlo⟩ := id C
  exact lv_isub hx hb hd (k p l e R s m args below meth c D tc A n0 ad0 h0 Q ad H locs cells slots la C hR hE (List.forall_mem_cons.mpr ⟨trivial, (fun v hv => hst v (List.mem_cons_of_mem _ (List.mem_cons_of_mem _ hv)))⟩) hls hla hc hs eR eT)
theorem X_imul {M : Mt} {lv : Nat} {K : Option Value → AH → Prop} {T : String → AH → Prop} {rc rs pc : Nat} {ls : List (Nat × Value)} {st : List Value} {h : AH} {x y : Int32} (hd : decode M.2.1 pc = .ok (.imul, 1)) (k : X M lv K T rc rs (pc + 1) ls (.int (x * y) :: st) h) : X M lv K T rc rs pc ls (.int y :: .int x :: st) h := by
  intro p l e R s m args below meth c D tc A n0 ad0 h0 Q ad H locs cells slots la C hR hE hst hls hla hc hs eR eT
  obtain ⟨hx, hb, hml, hret, hts, hown, hlk, htab, hns, hini, hfr, hlo⟩ := id C
  exact lv_imul hx hb hd (k p l e R s m args below meth c D tc A n0 ad0 h0 Q ad H locs cells slots la C hR hE (List.forall_mem_cons.mpr ⟨trivial, (fun v hv => hst v (List.mem_cons_of_mem _ (List.mem_cons_of_mem _ hv)))⟩) hls hla hc hs eR eT)
theorem X_iand {M : Mt} {lv : Nat} {K : Option Value → AH → Prop} {T : String → AH → Prop} {rc rs pc : Nat} {ls : List (Nat × Value)} {st : List Value} {h : AH} {x y : Int32} (hd : decode M.2.1 pc = .ok (.iand, 1)) (k : X M lv K T rc rs (pc + 1) ls (.int (x &&& y) :: st) h) : X M lv K T rc rs pc ls (.int y :: .int x :: st) h := by
  intro p l e R s m args below meth c D tc A n0 ad0 h0 Q ad H locs cells slots la C hR hE hst hls hla hc hs eR eT
  obtain ⟨hx, hb, hml, hret, hts, hown, hlk, htab, hns, hini, hfr, hlo⟩ := id C
  exact lv_iand hx hb hd (k p l e R s m args below meth c D tc A n0 ad0 h0 Q ad H locs cells slots la C hR hE (List.forall_mem_cons.mpr ⟨trivial, (fun v hv => hst v (List.mem_cons_of_mem _ (List.mem_cons_of_mem _ hv)))⟩) hls hla hc hs eR eT)
theorem X_ior {M : Mt} {lv : Nat} {K : Option Value → AH → Prop} {T : String → AH → Prop} {rc rs pc : Nat} {ls : List (Nat × Value)} {st : List Value} {h : AH} {x y : Int32} (hd : decode M.2.1 pc = .ok (.ior, 1)) (k : X M lv K T rc rs (pc + 1) ls (.int (x ||| y) :: st) h) : X M lv K T rc rs pc ls (.int y :: .int x :: st) h := by
  intro p l e R s m args below meth c D tc A n0 ad0 h0 Q ad H locs cells slots la C hR hE hst hls hla hc hs eR eT
  obtain ⟨hx, hb, hml, hret, hts, hown, hlk, htab, hns, hini, hfr, hlo⟩ := id C
  exact lv_ior hx hb hd (k p l e R s m args below meth c D tc A n0 ad0 h0 Q ad H locs cells slots la C hR hE (List.forall_mem_cons.mpr ⟨trivial, (fun v hv => hst v (List.mem_cons_of_mem _ (List.mem_cons_of_mem _ hv)))⟩) hls hla hc hs eR eT)
theorem X_ixor {M : Mt} {lv : Nat} {K : Option Value → AH → Prop} {T : String → AH → Prop} {rc rs pc : Nat} {ls : List (Nat × Value)} {st : List Value} {h : AH} {x y : Int32} (hd : decode M.2.1 pc = .ok (.ixor, 1)) (k : X M lv K T rc rs (pc + 1) ls (.int (x ^^^ y) :: st) h) : X M lv K T rc rs pc ls (.int y :: .int x :: st) h := by
  intro p l e R s m args below meth c D tc A n0 ad0 h0 Q ad H locs cells slots la C hR hE hst hls hla hc hs eR eT
  obtain ⟨hx, hb, hml, hret, hts, hown, hlk, htab, hns, hini, hfr, hlo⟩ := id C
  exact lv_ixor hx hb hd (k p l e R s m args below meth c D tc A n0 ad0 h0 Q ad H locs cells slots la C hR hE (List.forall_mem_cons.mpr ⟨trivial, (fun v hv => hst v (List.mem_cons_of_mem _ (List.mem_cons_of_mem _ hv)))⟩) hls hla hc hs eR eT)
theorem X_ishl {M : Mt} {lv : Nat} {K : Option Value → AH → Prop} {T : String → AH → Prop} {rc rs pc : Nat} {ls : List (Nat × Value)} {st : List Value} {h : AH} {x y : Int32} (hd : decode M.2.1 pc = .ok (.ishl, 1)) (k : X M lv K T rc rs (pc + 1) ls (.int (x <<< (y &&& 31)) :: st) h) : X M lv K T rc rs pc ls (.int y :: .int x :: st) h := by
  intro p l e R s m args below meth c D tc A n0 ad0 h0 Q ad H locs cells slots la C hR hE hst hls hla hc hs eR eT
  obtain ⟨hx, hb, hml, hret, hts, hown, hlk, htab, hns, hini, hfr, hlo⟩ := id C
  exact lv_ishl hx hb hd (k p l e R s m args below meth c D tc A n0 ad0 h0 Q ad H locs cells slots la C hR hE (List.forall_mem_cons.mpr ⟨trivial, (fun v hv => hst v (List.mem_cons_of_mem _ (List.mem_cons_of_mem _ hv)))⟩) hls hla hc hs eR eT)
theorem X_ishr {M : Mt} {lv : Nat} {K : Option Value → AH → Prop} {T : String → AH → Prop} {rc rs pc : Nat} {ls : List (Nat × Value)} {st : List Value} {h : AH} {x y : Int32} (hd : decode M.2.1 pc = .ok (.ishr, 1)) (k : X M lv K T rc rs (pc + 1) ls (.int (x >>> (y &&& 31)) :: st) h) : X M lv K T rc rs pc ls (.int y :: .int x :: st) h := by
  intro p l e R s m args below meth c D tc A n0 ad0 h0 Q ad H locs cells slots la C hR hE hst hls hla hc hs eR eT
  obtain ⟨hx, hb, hml, hret, hts, hown, hlk, htab, hns, hini, hfr, hlo⟩ := id C
  exact lv_ishr hx hb hd (k p l e R s m args below meth c D tc A n0 ad0 h0 Q ad H locs cells slots la C hR hE (List.forall_mem_cons.mpr ⟨trivial, (fun v hv => hst v (List.mem_cons_of_mem _ (List.mem_cons_of_mem _ hv)))⟩) hls hla hc hs eR eT)
theorem X_iushr {M : Mt} {lv : Nat} {K : Option Value → AH → Prop} {T : String → AH → Prop} {rc rs pc : Nat} {ls : List (Nat × Value)} {st : List Value} {h : AH} {x y v : Int32} (hd : decode M.2.1 pc = .ok (.iushr, 1)) (hv : (x.toUInt32 >>> (y.toUInt32 &&& Int32.toUInt32 31)).toInt32 = v) (k : X M lv K T rc rs (pc + 1) ls (.int v :: st) h) : X M lv K T rc rs pc ls (.int y :: .int x :: st) h := by
  intro p l e R s m args below meth c D tc A n0 ad0 h0 Q ad H locs cells slots la C hR hE hst hls hla hc hs eR eT
  obtain ⟨hx, hb, hml, hret, hts, hown, hlk, htab, hns, hini, hfr, hlo⟩ := id C
  exact lv_iushr hx hb hd hv (k p l e R s m args below meth c D tc A n0 ad0 h0 Q ad H locs cells slots la C hR hE (List.forall_mem_cons.mpr ⟨trivial, (fun v hv => hst v (List.mem_cons_of_mem _ (List.mem_cons_of_mem _ hv)))⟩) hls hla hc hs eR eT)
theorem X_idiv {M : Mt} {lv : Nat} {K : Option Value → AH → Prop} {T : String → AH → Prop} {rc rs pc : Nat} {ls : List (Nat × Value)} {st : List Value} {h : AH} {x y : Int32} (hd : decode M.2.1 pc = .ok (.idiv, 1)) (hne : ¬ y = 0) (k : X M lv K T rc rs (pc + 1) ls (.int (x / y) :: st) h) : X M lv K T rc rs pc ls (.int y :: .int x :: st) h := by
  intro p l e R s m args below meth c D tc A n0 ad0 h0 Q ad H locs cells slots la C hR hE hst hls hla hc hs eR eT
  obtain ⟨hx, hb, hml, hret, hts, hown, hlk, htab, hns, hini, hfr, hlo⟩ := id C
  exact lv_idiv hx hb hd hne (k p l e R s m args below meth c D tc A n0 ad0 h0 Q ad H locs cells slots la C hR hE (List.forall_mem_cons.mpr ⟨trivial, (fun v hv => hst v (List.mem_cons_of_mem _ (List.mem_cons_of_mem _ hv)))⟩) hls hla hc hs eR eT)
theorem X_irem {M : Mt} {lv : Nat} {K : Option Value → AH → Prop} {T : String → AH → Prop} {rc rs pc : Nat} {ls : List (Nat × Value)} {st : List Value} {h : AH} {x y : Int32} (hd : decode M.2.1 pc = .ok (.irem, 1)) (hne : ¬ y = 0) (k : X M lv K T rc rs (pc + 1) ls (.int (x - x / y * y) :: st) h) : X M lv K T rc rs pc ls (.int y :: .int x :: st) h := by
  intro p l e R s m args below meth c D tc A n0 ad0 h0 Q ad H locs cells slots la C hR hE hst hls hla hc hs eR eT
  obtain ⟨hx, hb, hml, hret, hts, hown, hlk, htab, hns, hini, hfr, hlo⟩ := id C
  exact lv_irem hx hb hd hne (k p l e R s m args below meth c D tc A n0 ad0 h0 Q ad H locs cells slots la C hR hE (List.forall_mem_cons.mpr ⟨trivial, (fun v hv => hst v (List.mem_cons_of_mem _ (List.mem_cons_of_mem _ hv)))⟩) hls hla hc hs eR eT)
theorem X_ineg {M : Mt} {lv : Nat} {K : Option Value → AH → Prop} {T : String → AH → Prop} {rc rs pc : Nat} {ls : List (Nat × Value)} {st : List Value} {h : AH} {x : Int32} (hd : decode M.2.1 pc = .ok (.ineg, 1)) (k : X M lv K T rc rs (pc + 1) ls (.int (-x) :: st) h) : X M lv K T rc rs pc ls (.int x :: st) h := by
  intro p l e R s m args below meth c D tc A n0 ad0 h0 Q ad H locs cells slots la C hR hE hst hls hla hc hs eR eT
  obtain ⟨hx, hb, hml, hret, hts, hown, hlk, htab, hns, hini, hfr, hlo⟩ := id C
  exact lv_ineg hx hb hd (k p l e R s m args below meth c D tc A n0 ad0 h0 Q ad H locs cells slots la C hR hE (List.forall_mem_cons.mpr ⟨trivial, (fun v hv => hst v (List.mem_cons_of_mem _ hv))⟩) hls hla hc hs eR eT)
theorem X_ladd {M : Mt} {lv : Nat} {K : Option Value → AH → Prop} {T : String → AH → Prop} {rc rs pc : Nat} {ls : List (Nat × Value)} {st : List Value} {h : AH} {x y : Int64} (hd : decode M.2.1 pc = .ok (.ladd, 1)) (k : X M lv K T rc rs (pc + 1) ls (.long (x + y) :: st) h) : X M lv K T rc rs pc ls (.long y :: .long x :: st) h := by
  intro p l e R s m args below meth c D tc A n0 ad0 h0 Q ad H locs cells slots la C hR hE hst hls hla hc hs eR eT
  obtain ⟨hx, hb, hml, hret, hts, hown, hlk, htab, hns, hini, hfr, hlo⟩ := id C
  exact lv_ladd hx hb hd (k p l e R s m args below meth c D tc A n0 ad0 h0 Q ad H locs cells slots la C hR hE (List.forall_mem_cons.mpr ⟨trivial, (fun v hv => hst v (List.mem_cons_of_mem _ (List.mem_cons_of_mem _ hv)))⟩) hls hla hc hs eR eT)
theorem X_lcmp {M : Mt} {lv : Nat} {K : Option Value → AH → Prop} {T : String → AH → Prop} {rc rs pc : Nat} {ls : List (Nat × Value)} {st : List Value} {h : AH} {x y : Int64} (hd : decode M.2.1 pc = .ok (.lcmp, 1)) (k : X M lv K T rc rs (pc + 1) ls (.int (lg_cmp x y) :: st) h) : X M lv K T rc rs pc ls (.long y :: .long x :: st) h := by
  intro p l e R s m args below meth c D tc A n0 ad0 h0 Q ad H locs cells slots la C hR hE hst hls hla hc hs eR eT
  obtain ⟨hx, hb, hml, hret, hts, hown, hlk, htab, hns, hini, hfr, hlo⟩ := id C
  exact W.lcmp hx hb hd (k p l e R s m args below meth c D tc A n0 ad0 h0 Q ad H locs cells slots la C hR hE (List.forall_mem_cons.mpr ⟨trivial, (fun v hv => hst v (List.mem_cons_of_mem _ (List.mem_cons_of_mem _ hv)))⟩) hls hla hc hs eR eT)
theorem X_i2l {M : Mt} {lv : Nat} {K : Option Value → AH → Prop} {T : String → AH → Prop} {rc rs pc : Nat} {ls : List (Nat × Value)} {st : List Value} {h : AH} {x : Int32} (hd : decode M.2.1 pc = .ok (.i2l, 1)) (k : X M lv K T rc rs (pc + 1) ls (.long x.toInt64 :: st) h) : X M lv K T rc rs pc ls (.int x :: st) h := by
  intro p l e R s m args below meth c D tc A n0 ad0 h0 Q ad H locs cells slots la C hR hE hst hls hla hc hs eR eT
  obtain ⟨hx, hb, hml, hret, hts, hown, hlk, htab, hns, hini, hfr, hlo⟩ := id C
  exact lv_i2l hx hb hd rfl (k p l e R s m args below meth c D tc A n0 ad0 h0 Q ad H locs cells slots la C hR hE (List.forall_mem_cons.mpr ⟨trivial, (fun v hv => hst v (List.mem_cons_of_mem _ hv))⟩) hls hla hc hs eR eT)
theorem X_i2c {M : Mt} {lv : Nat} {K : Option Value → AH → Prop} {T : String → AH → Prop} {rc rs pc : Nat} {ls : List (Nat × Value)} {st : List Value} {h : AH} {x : Int32} (hd : decode M.2.1 pc = .ok (.i2c, 1)) (k : X M lv K T rc rs (pc + 1) ls (.int (x.toUInt32 % 65536).toInt32 :: st) h) : X M lv K T rc rs pc ls (.int x :: st) h := by
  intro p l e R s m args below meth c D tc A n0 ad0 h0 Q ad H locs cells slots la C hR hE hst hls hla hc hs eR eT
  obtain ⟨hx, hb, hml, hret, hts, hown, hlk, htab, hns, hini, hfr, hlo⟩ := id C
  exact lv_i2c hx hb hd rfl (k p l e R s m args below meth c D tc A n0 ad0 h0 Q ad H locs cells slots la C hR hE (List.forall_mem_cons.mpr ⟨trivial, (fun v hv => hst v (List.mem_cons_of_mem _ hv))⟩) hls hla hc hs eR eT)
theorem X_i2b {M : Mt} {lv : Nat} {K : Option Value → AH → Prop} {T : String → AH → Prop} {rc rs pc : Nat} {ls : List (Nat × Value)} {st : List Value} {h : AH} {x : Int32} (hd : decode M.2.1 pc = .ok (.i2b, 1)) (k : X M lv K T rc rs (pc + 1) ls (.int x.toInt8.toInt32 :: st) h) : X M lv K T rc rs pc ls (.int x :: st) h := by
  intro p l e R s m args below meth c D tc A n0 ad0 h0 Q ad H locs cells slots la C hR hE hst hls hla hc hs eR eT
  obtain ⟨hx, hb, hml, hret, hts, hown, hlk, htab, hns, hini, hfr, hlo⟩ := id C
  exact lv_i2b hx hb hd rfl (k p l e R s m args below meth c D tc A n0 ad0 h0 Q ad H locs cells slots la C hR hE (List.forall_mem_cons.mpr ⟨trivial, (fun v hv => hst v (List.mem_cons_of_mem _ hv))⟩) hls hla hc hs eR eT)
theorem X_i2d {M : Mt} {lv : Nat} {K : Option Value → AH → Prop} {T : String → AH → Prop} {rc rs pc : Nat} {ls : List (Nat × Value)} {st : List Value} {h : AH} {x : Int32} (hd : decode M.2.1 pc = .ok (.i2d, 1)) (k : X M lv K T rc rs (pc + 1) ls (.double (FP.i2d x) :: st) h) : X M lv K T rc rs pc ls (.int x :: st) h := by
  intro p l e R s m args below meth c D tc A n0 ad0 h0 Q ad H locs cells slots la C hR hE hst hls hla hc hs eR eT
  obtain ⟨hx, hb, hml, hret, hts, hown, hlk, htab, hns, hini, hfr, hlo⟩ := id C
  exact lv_i2d hx hb hd (k p l e R s m args below meth c D tc A n0 ad0 h0 Q ad H locs cells slots la C hR hE (List.forall_mem_cons.mpr ⟨trivial, (fun v hv => hst v (List.mem_cons_of_mem _ hv))⟩) hls hla hc hs eR eT)
theorem X_l2d {M : Mt} {lv : Nat} {K : Option Value → AH → Prop} {T : String → AH → Prop} {rc rs pc : Nat} {ls : List (Nat × Value)} {st : List Value} {h : AH} {x : Int64} (hd : decode M.2.1 pc = .ok (.l2d, 1)) (k : X M lv K T rc rs (pc + 1) ls (.double (FP.l2d x) :: st) h) : X M lv K T rc rs pc ls (.long x :: st) h := by
  intro p l e R s m args below meth c D tc A n0 ad0 h0 Q ad H locs cells slots la C hR hE hst hls hla hc hs eR eT
  obtain ⟨hx, hb, hml, hret, hts, hown, hlk, htab, hns, hini, hfr, hlo⟩ := id C
  exact lv_l2d hx hb hd (k p l e R s m args below meth c D tc A n0 ad0 h0 Q ad H locs cells slots la C hR hE (List.forall_mem_cons.mpr ⟨trivial, (fun v hv => hst v (List.mem_cons_of_mem _ hv))⟩) hls hla hc hs eR eT)
theorem X_i2f {M : Mt} {lv : Nat} {K : Option Value → AH → Prop} {T : String → AH → Prop} {rc rs pc : Nat} {ls : List (Nat × Value)} {st : List Value} {h : AH} {x : Int32} (hd : decode M.2.1 pc = .ok (.i2f, 1)) (k : X M lv K T rc rs (pc + 1) ls (.float (FP.i2f x) :: st) h) : X M lv K T rc rs pc ls (.int x :: st) h := by
  intro p l e R s m args below meth c D tc A n0 ad0 h0 Q ad H locs cells slots la C hR hE hst hls hla hc hs eR eT
  obtain ⟨hx, hb, hml, hret, hts, hown, hlk, htab, hns, hini, hfr, hlo⟩ := id C
  exact lv_i2f hx hb hd (k p l e R s m args below meth c D tc A n0 ad0 h0 Q ad H locs cells slots la C hR hE (List.forall_mem_cons.mpr ⟨trivial, (fun v hv => hst v (List.mem_cons_of_mem _ hv))⟩) hls hla hc hs eR eT)
theorem X_f2d {M : Mt} {lv : Nat} {K : Option Value → AH → Prop} {T : String → AH → Prop} {rc rs pc : Nat} {ls : List (Nat × Value)} {st : List Value} {h : AH} {x : UInt32} (hd : decode M.2.1 pc = .ok (.f2d, 1)) (hne : vf_n64 (FP.f2d x)) (k : X M lv K T rc rs (pc + 1) ls (.double (FP.f2d x) :: st) h) : X M lv K T rc rs pc ls (.float x :: st) h := by
  intro p l e R s m args below meth c D tc A n0 ad0 h0 Q ad H locs cells slots la C hR hE hst hls hla hc hs eR eT
  obtain ⟨hx, hb, hml, hret, hts, hown, hlk, htab, hns, hini, hfr, hlo⟩ := id C
  exact lv_f2d hx hb hd hne (k p l e R s m args below meth c D tc A n0 ad0 h0 Q ad H locs cells slots la C hR hE (List.forall_mem_cons.mpr ⟨trivial, (fun v hv => hst v (List.mem_cons_of_mem _ hv))⟩) hls hla hc hs eR eT)
theorem X_ddiv {M : Mt} {lv : Nat} {K : Option Value → AH → Prop} {T : String → AH → Prop} {rc rs pc : Nat} {ls : List (Nat × Value)} {st : List Value} {h : AH} {x y : UInt64} (hd : decode M.2.1 pc = .ok (.ddiv, 1)) (hne : vf_n64 (FP.ddiv x y)) (k : X M lv K T rc rs (pc + 1) ls (.double (FP.ddiv x y) :: st) h) : X M lv K T rc rs pc ls (.double y :: .double x :: st) h := by
  intro p l e R s m args below meth c D tc A n0 ad0 h0 Q ad H locs cells slots la C hR hE hst hls hla hc hs eR eT
  obtain ⟨hx, hb, hml, hret, hts, hown, hlk, htab, hns, hini, hfr, hlo⟩ := id C
  exact lv_ddiv hx hb hd hne (k p l e R s m args below meth c D tc A n0 ad0 h0 Q ad H locs cells slots la C hR hE (List.forall_mem_cons.mpr ⟨trivial, (fun v hv => hst v (List.mem_cons_of_mem _ (List.mem_cons_of_mem _ hv)))⟩) hls hla hc hs eR eT)
theorem X_fdiv {M : Mt} {lv : Nat} {K : Option Value → AH → Prop} {T : String → AH → Prop} {rc rs pc : Nat} {ls : List (Nat × Value)} {st : List Value} {h : AH} {x y : UInt32} (hd : decode M.2.1 pc = .ok (.fdiv, 1)) (hne : vf_n32 (FP.fdiv x y)) (k : X M lv K T rc rs (pc + 1) ls (.float (FP.fdiv x y) :: st) h) : X M lv K T rc rs pc ls (.float y :: .float x :: st) h := by
  intro p l e R s m args below meth c D tc A n0 ad0 h0 Q ad H locs cells slots la C hR hE hst hls hla hc hs eR eT
  obtain ⟨hx, hb, hml, hret, hts, hown, hlk, htab, hns, hini, hfr, hlo⟩ := id C
  exact lv_fdiv hx hb hd hne (k p l e R s m args below meth c D tc A n0 ad0 h0 Q ad H locs cells slots la C hR hE (List.forall_mem_cons.mpr ⟨trivial, (fun v hv => hst v (List.mem_cons_of_mem _ (List.mem_cons_of_mem _ hv)))⟩) hls hla hc hs eR eT)
theorem X_dcmp {M : Mt} {lv : Nat} {K : Option Value → AH → Prop} {T : String → AH → Prop} {rc rs pc : Nat} {ls : List (Nat × Value)} {st : List Value} {h : AH} {x y : UInt64} {op : CmpOp} (hd : decode M.2.1 pc = .ok (.dcmp op, 1)) (k : X M lv K T rc rs (pc + 1) ls (.int (Op.cmpValue (FP.dcmp x y) op) :: st) h) : X M lv K T rc rs pc ls (.double y :: .double x :: st) h := by
  intro p l e R s m args below meth c D tc A n0 ad0 h0 Q ad H locs cells slots la C hR hE hst hls hla hc hs eR eT
  obtain ⟨hx, hb, hml, hret, hts, hown, hlk, htab, hns, hini, hfr, hlo⟩ := id C
  exact lv_dcmp hx hb hd (k p l e R s m args below meth c D tc A n0 ad0 h0 Q ad H locs cells slots la C hR hE (List.forall_mem_cons.mpr ⟨trivial, (fun v hv => hst v (List.mem_cons_of_mem _ (List.mem_cons_of_mem _ hv)))⟩) hls hla hc hs eR eT)
theorem X_fcmp {M : Mt} {lv : Nat} {K : Option Value → AH → Prop} {T : String → AH → Prop} {rc rs pc : Nat} {ls : List (Nat × Value)} {st : List Value} {h : AH} {x y : UInt32} {op : CmpOp} (hd : decode M.2.1 pc = .ok (.fcmp op, 1)) (k : X M lv K T rc rs (pc + 1) ls (.int (Op.cmpValue (FP.fcmp x y) op) :: st) h) : X M lv K T rc rs pc ls (.float y :: .float x :: st) h := by
  intro p l e R s m args below meth c D tc A n0 ad0 h0 Q ad H locs cells slots la C hR hE hst hls hla hc hs eR eT
  obtain ⟨hx, hb, hml, hret, hts, hown, hlk, htab, hns, hini, hfr, hlo⟩ := id C
  exact lv_fcmp hx hb hd (k p l e R s m args below meth c D tc A n0 ad0 h0 Q ad H locs cells slots la C hR hE (List.forall_mem_cons.mpr ⟨trivial, (fun v hv => hst v (List.mem_cons_of_mem _ (List.mem_cons_of_mem _ hv)))⟩) hls hla hc hs eR eT)
theorem X_dup {M : Mt} {lv : Nat} {K : Option Value → AH → Prop} {T : String → AH → Prop} {rc rs pc : Nat} {ls : List (Nat × Value)} {st : List Value} {h : AH} {v1 : Value} (hd : decode M.2.1 pc = .ok (.dup, 1)) (h1 : v1.category = 1) (k : X M lv K T rc rs (pc + 1) ls (v1 :: v1 :: st) h) : X M lv K T rc rs pc ls (v1 :: st) h := by
  intro p l e R s m args below meth c D tc A n0 ad0 h0 Q ad H locs cells slots la C hR hE hst hls hla hc hs eR eT
  obtain ⟨hx, hb, hml, hret, hts, hown, hlk, htab, hns, hini, hfr, hlo⟩ := id C
  exact lv_dup hx hb hd ((cv_cat ad _).trans h1) (k p l e R s m args below meth c D tc A n0 ad0 h0 Q ad H locs cells slots la C hR hE (List.forall_mem_cons.mpr ⟨(hst _ List.mem_cons_self), (List.forall_mem_cons.mpr ⟨(hst _ List.mem_cons_self), (fun v hv => hst v (List.mem_cons_of_mem _ hv))⟩)⟩) hls hla hc hs eR eT)
theorem X_pop {M : Mt} {lv : Nat} {K : Option Value → AH → Prop} {T : String → AH → Prop} {rc rs pc : Nat} {ls : List (Nat × Value)} {st : List Value} {h : AH} {v1 : Value} (hd : decode M.2.1 pc = .ok (.pop, 1)) (h1 : v1.category = 1) (k : X M lv K T rc rs (pc + 1) ls (st) h) : X M lv K T rc rs pc ls (v1 :: st) h := by
  intro p l e R s m args below meth c D tc A n0 ad0 h0 Q ad H locs cells slots la C hR hE hst hls hla hc hs eR eT
  obtain ⟨hx, hb, hml, hret, hts, hown, hlk, htab, hns, hini, hfr, hlo⟩ := id C
  exact lv_pop hx hb hd ((cv_cat ad _).trans h1) (k p l e R s m args below meth c D tc A n0 ad0 h0 Q ad H locs cells slots la C hR hE (fun v hv => hst v (List.mem_cons_of_mem _ hv)) hls hla hc hs eR eT)
theorem X_dup_x1 {M : Mt} {lv : Nat} {K : Option Value → AH → Prop} {T : String → AH → Prop} {rc rs pc : Nat} {ls : List (Nat × Value)} {st : List Value} {h : AH} {v1 v2 : Value} (hd : decode M.2.1 pc = .ok (.dup_x1, 1)) (h1 : v1.category = 1) (h2 : v2.category = 1) (k : X M lv K T rc rs (pc + 1) ls (v1 :: v2 :: v1 :: st) h) : X M lv K T rc rs pc ls (v1 :: v2 :: st) h := by
  intro p l e R s m args below meth c D tc A n0 ad0 h0 Q ad H locs cells slots la C hR hE hst hls hla hc hs eR eT
  obtain ⟨hx, hb, hml, hret, hts, hown, hlk, htab, hns, hini, hfr, hlo⟩ := id C
  exact lv_dup_x1 hx hb hd ((cv_cat ad _).trans h1) ((cv_cat ad _).trans h2) (k p l e R s m args below meth c D tc A n0 ad0 h0 Q ad H locs cells slots la C hR hE (List.forall_mem_cons.mpr ⟨(hst _ List.mem_cons_self), (List.forall_mem_cons.mpr ⟨(hst _ (List.mem_cons_of_mem _ List.mem_cons_self)), (List.forall_mem_cons.mpr ⟨(hst _ List.mem_cons_self), (fun v hv => hst v (List.mem_cons_of_mem _ (List.mem_cons_of_mem _ hv)))⟩)⟩)⟩) hls hla hc hs eR eT)
theorem X_dup_x2 {M : Mt} {lv : Nat} {K : Option Value → AH → Prop} {T : String → AH → Prop} {rc rs pc : Nat} {ls : List (Nat × Value)} {st : List Value} {h : AH} {v1 v2 v3 : Value} (hd : decode M.2.1 pc = .ok (.dup_x2, 1)) (h1 : v1.category = 1) (h2 : v2.category = 1) (h3 : v3.category = 1) (k : X M lv K T rc rs (pc + 1) ls (v1 :: v2 :: v3 :: v1 :: st) h) : X M lv K T rc rs pc ls (v1 :: v2 :: v3 :: st) h := by
  intro p l e R s m args below meth c D tc A n0 ad0 h0 Q ad H locs cells slots la C hR hE hst hls hla hc hs eR eT
  obtain ⟨hx, hb, hml, hret, hts, hown, hlk, htab, hns, hini, hfr, hlo⟩ := id C
  exact lv_dup_x2 hx hb hd ((cv_cat ad _).trans h1) ((cv_cat ad _).trans h2) ((cv_cat ad _).trans h3) (k p l e R s m args below meth c D tc A n0 ad0 h0 Q ad H locs cells slots la C hR hE (List.forall_mem_cons.mpr ⟨(hst _ List.mem_cons_self), (List.forall_mem_cons.mpr ⟨(hst _ (List.mem_cons_of_mem _ List.mem_cons_self)), (List.forall_mem_cons.mpr ⟨(hst _ (List.mem_cons_of_mem _ (List.mem_cons_of_mem _ List.mem_cons_self))), (List.forall_mem_cons.mpr ⟨(hst _ List.mem_cons_self), (fun v hv => hst v (List.mem_cons_of_mem _ (List.mem_cons_of_mem _ (List.mem_cons_of_mem _ hv))))⟩)⟩)⟩)⟩) hls hla hc hs eR eT)
theorem X_dup2 {M : Mt} {lv : Nat} {K : Option Value → AH → Prop} {T : String → AH → Prop} {rc rs pc : Nat} {ls : List (Nat × Value)} {st : List Value} {h : AH} {v1 v2 : Value} (hd : decode M.2.1 pc = .ok (.dup2, 1)) (h1 : v1.category = 1) (h2 : v2.category = 1) (k : X M lv K T rc rs (pc + 1) ls (v1 :: v2 :: v1 :: v2 :: st) h) : X M lv K T rc rs pc ls (v1 :: v2 :: st) h := by
  intro p l e R s m args below meth c D tc A n0 ad0 h0 Q ad H locs cells slots la C hR hE hst hls hla hc hs eR eT
  obtain ⟨hx, hb, hml, hret, hts, hown, hlk, htab, hns, hini, hfr, hlo⟩ := id C
  exact lv_dup2_11 hx hb hd ((cv_cat ad _).trans h1) ((cv_cat ad _).trans h2) (k p l e R s m args below meth c D tc A n0 ad0 h0 Q ad H locs cells slots la C hR hE (List.forall_mem_cons.mpr ⟨(hst _ List.mem_cons_self), (List.forall_mem_cons.mpr ⟨(hst _ (List.mem_cons_of_mem _ List.mem_cons_self)), (List.forall_mem_cons.mpr ⟨(hst _ List.mem_cons_self), (List.forall_mem_cons.mpr ⟨(hst _ (List.mem_cons_of_mem _ List.mem_cons_self)), (fun v hv => hst v (List.mem_cons_of_mem _ (List.mem_cons_of_mem _ hv)))⟩)⟩)⟩)⟩) hls hla hc hs eR eT)
theorem X_pop2 {M : Mt} {lv : Nat} {K : Option Value → AH → Prop} {T : String → AH → Prop} {rc rs pc : Nat} {ls : List (Nat × Value)} {st : List Value} {h : AH} {v1 v2 : Value} (hd : decode M.2.1 pc = .ok (.pop2, 1)) (h1 : v1.category = 1) (h2 : v2.category = 1) (k : X M lv K T rc rs (pc + 1) ls (st) h) : X M lv K T rc rs pc ls (v1 :: v2 :: st) h := by
  intro p l e R s m args below meth c D tc A n0 ad0 h0 Q ad H locs cells slots la C hR hE hst hls hla hc hs eR eT
  obtain ⟨hx, hb, hml, hret, hts, hown, hlk, htab, hns, hini, hfr, hlo⟩ := id C
  exact lv_pop2_11 hx hb hd ((cv_cat ad _).trans h1) ((cv_cat ad _).trans h2) (k p l e R s m args below meth c D tc A n0 ad0 h0 Q ad H locs cells slots la C hR hE (fun v hv => hst v (List.mem_cons_of_mem _ (List.mem_cons_of_mem _ hv))) hls hla hc hs eR eT)
theorem X_if_eq {M : Mt} {lv : Nat} {K : Option Value → AH → Prop} {T : String → AH → Prop} {rc rs pc : Nat} {ls : List (Nat × Value)} {st : List Value} {h : AH} {x : Int32} {off : Int} {tgt : Nat} (hd : decode M.2.1 pc = .ok (.ifCond .eq off, 3)) (ht : (pc : Int) + off = (tgt : Int)) (k : (x = 0 → X M lv K T rc rs tgt ls st h) ∧ (¬ x = 0 → X M lv K T rc rs (pc + 3) ls st h)) : X M lv K T rc rs pc ls (.int x :: st) h := by
  intro p l e R s m args below meth c D tc A n0 ad0 h0 Q ad H locs cells slots la C hR hE hst hls hla hc hs eR eT
  obtain ⟨hx, hb, hml, hret, hts, hown, hlk, htab, hns, hini, hfr, hlo⟩ := id C
  exact lv_if_eq hx hb hd ht (fun z => ((k.1 z) p l e R s m args below meth c D tc A n0 ad0 h0 Q ad H locs cells slots la C hR hE (fun v hv => hst v (List.mem_cons_of_mem _ hv)) hls hla hc hs eR eT)) (fun z => ((k.2 z) p l e R s m args below meth c D tc A n0 ad0 h0 Q ad H locs cells slots la C hR hE (fun v hv => hst v (List.mem_cons_of_mem _ hv)) hls hla hc hs eR eT))
theorem X_icmp_eq {M : Mt} {lv : Nat} {K : Option Value → AH → Prop} {T : String → AH → Prop} {rc rs pc : Nat} {ls : List (Nat × Value)} {st : List Value} {h : AH} {x y : Int32} {off : Int} {tgt : Nat} (hd : decode M.2.1 pc = .ok (.if_icmp .eq off, 3)) (ht : (pc : Int) + off = (tgt : Int)) (k : (x = y → X M lv K T rc rs tgt ls st h) ∧ (¬ x = y → X M lv K T rc rs (pc + 3) ls st h)) : X M lv K T rc rs pc ls (.int y :: .int x :: st) h := by
  intro p l e R s m args below meth c D tc A n0 ad0 h0 Q ad H locs cells slots la C hR hE hst hls hla hc hs eR eT
  obtain ⟨hx, hb, hml, hret, hts, hown, hlk, htab, hns, hini, hfr, hlo⟩ := id C
  exact lv_icmp_eq hx hb hd ht (fun z => ((k.1 z) p l e R s m args below meth c D tc A n0 ad0 h0 Q ad H locs cells slots la C hR hE (fun v hv => hst v (List.mem_cons_of_mem _ (List.mem_cons_of_mem _ hv))) hls hla hc hs eR eT)) (fun z => ((k.2 z) p l e R s m args below meth c D tc A n0 ad0 h0 Q ad H locs cells slots la C hR hE (fun v hv => hst v (List.mem_cons_of_mem _ (List.mem_cons_of_mem _ hv))) hls hla hc hs eR eT))
theorem X_if_ne {M : Mt} {lv : Nat} {K : Option Value → AH → Prop} {T : String → AH → Prop} {rc rs pc : Nat} {ls : List (Nat × Value)} {st : List Value} {h : AH} {x : Int32} {off : Int} {tgt : Nat} (hd : decode M.2.1 pc = .ok (.ifCond .ne off, 3)) (ht : (pc : Int) + off = (tgt : Int)) (k : (¬ x = 0 → X M lv K T rc rs tgt ls st h) ∧ (x = 0 → X M lv K T rc rs (pc + 3) ls st h)) : X M lv K T rc rs pc ls (.int x :: st) h := by
  intro p l e R s m args below meth c D tc A n0 ad0 h0 Q ad H locs cells slots la C hR hE hst hls hla hc hs eR eT
  obtain ⟨hx, hb, hml, hret, hts, hown, hlk, htab, hns, hini, hfr, hlo⟩ := id C
  exact lv_if_ne hx hb hd ht (fun z => ((k.1 z) p l e R s m args below meth c D tc A n0 ad0 h0 Q ad H locs cells slots la C hR hE (fun v hv => hst v (List.mem_cons_of_mem _ hv)) hls hla hc hs eR eT)) (fun z => ((k.2 z) p l e R s m args below meth c D tc A n0 ad0 h0 Q ad H locs cells slots la C hR hE (fun v hv => hst v (List.mem_cons_of_mem _ hv)) hls hla hc hs eR eT))
theorem X_icmp_ne {M : Mt} {lv : Nat} {K : Option Value → AH → Prop} {T : String → AH → Prop} {rc rs pc : Nat} {ls : List (Nat × Value)} {st : List Value} {h : AH} {x y : Int32} {off : Int} {tgt : Nat} (hd : decode M.2.1 pc = .ok (.if_icmp .ne off, 3)) (ht : (pc : Int) + off = (tgt : Int)) (k : (¬ x = y → X M lv K T rc rs tgt ls st h) ∧ (x = y → X M lv K T rc rs (pc + 3) ls st h)) : X M lv K T rc rs pc ls (.int y :: .int x :: st) h := by
  intro p l e R s m args below meth c D tc A n0 ad0 h0 Q ad H locs cells slots la C hR hE hst hls hla hc hs eR eT
  obtain ⟨hx, hb, hml, hret, hts, hown, hlk, htab, hns, hini, hfr, hlo⟩ := id C
  exact lv_icmp_ne hx hb hd ht (fun z => ((k.1 z) p l e R s m args below meth c D tc A n0 ad0 h0 Q ad H locs cells slots la C hR hE (fun v hv => hst v (List.mem_cons_of_mem _ (List.mem_cons_of_mem _ hv))) hls hla hc hs eR eT)) (fun z => ((k.2 z) p l e R s m args below meth c D tc A n0 ad0 h0 Q ad H locs cells slots la C hR hE (fun v hv => hst v (List.mem_cons_of_mem _ (List.mem_cons_of_mem _ hv))) hls hla hc hs eR eT))
theorem X_if_lt {M : Mt} {lv : Nat} {K : Option Value → AH → Prop} {T : String → AH → Prop} {rc rs pc : Nat} {ls : List (Nat × Value)} {st : List Value} {h : AH} {x : Int32} {off : Int} {tgt : Nat} (hd : decode M.2.1 pc = .ok (.ifCond .lt off, 3)) (ht : (pc : Int) + off = (tgt : Int)) (k : (x < 0 → X M lv K T rc rs tgt ls st h) ∧ (¬ x < 0 → X M lv K T rc rs (pc + 3) ls st h)) : X M lv K T rc rs pc ls (.int x :: st) h := by
  intro p l e R s m args below meth c D tc A n0 ad0 h0 Q ad H locs cells slots la C hR hE hst hls hla hc hs eR eT
  obtain ⟨hx, hb, hml, hret, hts, hown, hlk, htab, hns, hini, hfr, hlo⟩ := id C
  exact lv_if_lt hx hb hd ht (fun z => ((k.1 z) p l e R s m args below meth c D tc A n0 ad0 h0 Q ad H locs cells slots la C hR hE (fun v hv => hst v (List.mem_cons_of_mem _ hv)) hls hla hc hs eR eT)) (fun z => ((k.2 z) p l e R s m args below meth c D tc A n0 ad0 h0 Q ad H locs cells slots la C hR hE (fun v hv => hst v (List.mem_cons_of_mem _ hv)) hls hla hc hs eR eT))
theorem X_icmp_lt {M : Mt} {lv : Nat} {K : Option Value → AH → Prop} {T : String → AH → Prop} {rc rs pc : Nat} {ls : List (Nat × Value)} {st : List Value} {h : AH} {x y : Int32} {off : Int} {tgt : Nat} (hd : decode M.2.1 pc = .ok (.if_icmp .lt off, 3)) (ht : (pc : Int) + off = (tgt : Int)) (k : (x < y → X M lv K T rc rs tgt ls st h) ∧ (¬ x < y → X M lv K T rc rs (pc + 3) ls st h)) : X M lv K T rc rs pc ls (.int y :: .int x :: st) h := by
  intro p l e R s m args below meth c D tc A n0 ad0 h0 Q ad H locs cells slots la C hR hE hst hls hla hc hs eR eT
  obtain ⟨hx, hb, hml, hret, hts, hown, hlk, htab, hns, hini, hfr, hlo⟩ := id C
  exact lv_icmp_lt hx hb hd ht (fun z => ((k.1 z) p l e R s m args below meth c D tc A n0 ad0 h0 Q ad H locs cells slots la C hR hE (fun v hv => hst v (List.mem_cons_of_mem _ (List.mem_cons_of_mem _ hv))) hls hla hc hs eR eT)) (fun z => ((k.2 z) p l e R s m args below meth c D tc A n0 ad0 h0 Q ad H locs cells slots la C hR hE (fun v hv => hst v (List.mem_cons_of_mem _ (List.mem_cons_of_mem _ hv))) hls hla hc hs eR eT))
theorem X_if_ge {M : Mt} {lv : Nat} {K : Option Value → AH → Prop} {T : String → AH → Prop} {rc rs pc : Nat} {ls : List (Nat × Value)} {st : List Value} {h : AH} {x : Int32} {off : Int} {tgt : Nat} (hd : decode M.2.1 pc = .ok (.ifCond .ge off, 3)) (ht : (pc : Int) + off = (tgt : Int)) (k : (0 ≤ x → X M lv K T rc rs tgt ls st h) ∧ (¬ 0 ≤ x → X M lv K T rc rs (pc + 3) ls st h)) : X M lv K T rc rs pc ls (.int x :: st) h := by
  intro p l e R s m args below meth c D tc A n0 ad0 h0 Q ad H locs cells slots la C hR hE hst hls hla hc hs eR eT
  obtain ⟨hx, hb, hml, hret, hts, hown, hlk, htab, hns, hini, hfr, hlo⟩ := id C
  exact lv_if_ge hx hb hd ht (fun z => ((k.1 z) p l e R s m args below meth c D tc A n0 ad0 h0 Q ad H locs cells slots la C hR hE (fun v hv => hst v (List.mem_cons_of_mem _ hv)) hls hla hc hs eR eT)) (fun z => ((k.2 z) p l e R s m args below meth c D tc A n0 ad0 h0 Q ad H locs cells slots la C hR hE (fun v hv => hst v (List.mem_cons_of_mem _ hv)) hls hla hc hs eR eT))
theorem X_icmp_ge {M : Mt} {lv : Nat} {K : Option Value → AH → Prop} {T : String → AH → Prop} {rc rs pc : Nat} {ls : List (Nat × Value)} {st : List Value} {h : AH} {x y : Int32} {off : Int} {tgt : Nat} (hd : decode M.2.1 pc = .ok (.if_icmp .ge off, 3)) (ht : (pc : Int) + off = (tgt : Int)) (k : (y ≤ x → X M lv K T rc rs tgt ls st h) ∧ (¬ y ≤ x → X M lv K T rc rs (pc + 3) ls st h)) : X M lv K T rc rs pc ls (.int y :: .int x :: st) h := by
  intro p l e R s m args below meth c D tc A n0 ad0 h0 Q ad H locs cells slots la C hR hE hst hls hla hc hs eR eT
  obtain ⟨hx, hb, hml, hret, hts, hown, hlk, htab, hns, hini, hfr, hlo⟩ := id C
  exact lv_icmp_ge hx hb hd ht (fun z => ((k.1 z) p l e R s m args below meth c D tc A n0 ad0 h0 Q ad H locs cells slots la C hR hE (fun v hv => hst v (List.mem_cons_of_mem _ (List.mem_cons_of_mem _ hv))) hls hla hc hs eR eT)) (fun z => ((k.2 z) p l e R s m args below meth c D tc A n0 ad0 h0 Q ad H locs cells slots la C hR hE (fun v hv => hst v (List.mem_cons_of_mem _ (List.mem_cons_of_mem _ hv))) hls hla hc hs eR eT))
theorem X_if_gt {M : Mt} {lv : Nat} {K : Option Value → AH → Prop} {T : String → AH → Prop} {rc rs pc : Nat} {ls : List (Nat × Value)} {st : List Value} {h : AH} {x : Int32} {off : Int} {tgt : Nat} (hd : decode M.2.1 pc = .ok (.ifCond .gt off, 3)) (ht : (pc : Int) + off = (tgt : Int)) (k : (0 < x → X M lv K T rc rs tgt ls st h) ∧ (¬ 0 < x → X M lv K T rc rs (pc + 3) ls st h)) : X M lv K T rc rs pc ls (.int x :: st) h := by
  intro p l e R s m args below meth c D tc A n0 ad0 h0 Q ad H locs cells slots la C hR hE hst hls hla hc hs eR eT
  obtain ⟨hx, hb, hml, hret, hts, hown, hlk, htab, hns, hini, hfr, hlo⟩ := id C
  exact lv_if_gt hx hb hd ht (fun z => ((k.1 z) p l e R s m args below meth c D tc A n0 ad0 h0 Q ad H locs cells slots la C hR hE (fun v hv => hst v (List.mem_cons_of_mem _ hv)) hls hla hc hs eR eT)) (fun z => ((k.2 z) p l e R s m args below meth c D tc A n0 ad0 h0 Q ad H locs cells slots la C hR hE (fun v hv => hst v (List.mem_cons_of_mem _ hv)) hls hla hc hs eR eT))
theorem X_icmp_gt {M : Mt} {lv : Nat} {K : Option Value → AH → Prop} {T : String → AH → Prop} {rc rs pc : Nat} {ls : List (Nat × Value)} {st : List Value} {h : AH} {x y : Int32} {off : Int} {tgt : Nat} (hd : decode M.2.1 pc = .ok (.if_icmp .gt off, 3)) (ht : (pc : Int) + off = (tgt : Int)) (k : (y < x → X M lv K T rc rs tgt ls st h) ∧ (¬ y < x → X M lv K T rc rs (pc + 3) ls st h)) : X M lv K T rc rs pc ls (.int y :: .int x :: st) h := by
  intro p l e R s m args below meth c D tc A n0 ad0 h0 Q ad H locs cells slots la C hR hE hst hls hla hc hs eR eT
  obtain ⟨hx, hb, hml, hret, hts, hown, hlk, htab, hns, hini, hfr, hlo⟩ := id C
  exact lv_icmp_gt hx hb hd ht (fun z => ((k.1 z) p l e R s m args below meth c D tc A n0 ad0 h0 Q ad H locs cells slots la C hR hE (fun v hv => hst v (List.mem_cons_of_mem _ (List.mem_cons_of_mem _ hv))) hls hla hc hs eR eT)) (fun z => ((k.2 z) p l e R s m args below meth c D tc A n0 ad0 h0 Q ad H locs cells slots la C hR hE (fun v hv => hst v (List.mem_cons_of_mem _ (List.mem_cons_of_mem _ hv))) hls hla hc hs eR eT))
theorem X_if_le {M : Mt} {lv : Nat} {K : Option Value → AH → Prop} {T : String → AH → Prop} {rc rs pc : Nat} {ls : List (Nat × Value)} {st : List Value} {h : AH} {x : Int32} {off : Int} {tgt : Nat} (hd : decode M.2.1 pc = .ok (.ifCond .le off, 3)) (ht : (pc : Int) + off = (tgt : Int)) (k : (x ≤ 0 → X M lv K T rc rs tgt ls st h) ∧ (¬ x ≤ 0 → X M lv K T rc rs (pc + 3) ls st h)) : X M lv K T rc rs pc ls (.int x :: st) h := by
  intro p l e R s m args below meth c D tc A n0 ad0 h0 Q ad H locs cells slots la C hR hE hst hls hla hc hs eR eT
  obtain ⟨hx, hb, hml, hret, hts, hown, hlk, htab, hns, hini, hfr, hlo⟩ := id C
  exact lv_if_le hx hb hd ht (fun z => ((k.1 z) p l e R s m args below meth c D tc A n0 ad0 h0 Q ad H locs cells slots la C hR hE (fun v hv => hst v (List.mem_cons_of_mem _ hv)) hls hla hc hs eR eT)) (fun z => ((k.2 z) p l e R s m args below meth c D tc A n0 ad0 h0 Q ad H locs cells slots la C hR hE (fun v hv => hst v (List.mem_cons_of_mem _ hv)) hls hla hc hs eR eT))
theorem X_icmp_le {M : Mt} {lv : Nat} {K : Option Value → AH → Prop} {T : String → AH → Prop} {rc rs pc : Nat} {ls : List (Nat × Value)} {st : List Value} {h : AH} {x y : Int32} {off : Int} {tgt : Nat} (hd : decode M.2.1 pc = .ok (.if_icmp .le off, 3)) (ht : (pc : Int) + off = (tgt : Int)) (k : (x ≤ y → X M lv K T rc rs tgt ls st h) ∧ (¬ x ≤ y → X M lv K T rc rs (pc + 3) ls st h)) : X M lv K T rc rs pc ls (.int y :: .int x :: st) h := by
  intro p l e R s m args below meth c D tc A n0 ad0 h0 Q ad H locs cells slots la C hR hE hst hls hla hc hs eR eT
  obtain ⟨hx, hb, hml, hret, hts, hown, hlk, htab, hns, hini, hfr, hlo⟩ := id C
  exact lv_icmp_le hx hb hd ht (fun z => ((k.1 z) p l e R s m args below meth c D tc A n0 ad0 h0 Q ad H locs cells slots la C hR hE (fun v hv => hst v (List.mem_cons_of_mem _ (List.mem_cons_of_mem _ hv))) hls hla hc hs eR eT)) (fun z => ((k.2 z) p l e R s m args below meth c D tc A n0 ad0 h0 Q ad H locs cells slots la C hR hE (fun v hv => hst v (List.mem_cons_of_mem _ (List.mem_cons_of_mem _ hv))) hls hla hc hs eR eT))
theorem X_goto {M : Mt} {lv : Nat} {K : Option Value → AH → Prop} {T : String → AH → Prop} {rc rs pc : Nat} {ls : List (Nat × Value)} {st : List Value} {h : AH} {off : Int} {tgt : Nat} (hd : decode M.2.1 pc = .ok (.goto off, 3)) (ht : (pc : Int) + off = (tgt : Int)) (k : X M lv K T rc rs tgt ls st h) : X M lv K T rc rs pc ls st h := by
  intro p l e R s m args below meth c D tc A n0 ad0 h0 Q ad H locs cells slots la C hR hE hst hls hla hc hs eR eT
  obtain ⟨hx, hb, hml, hret, hts, hown, hlk, htab, hns, hini, hfr, hlo⟩ := id C
  exact lv_goto hx hb hd ht (k p l e R s m args below meth c D tc A n0 ad0 h0 Q ad H locs cells slots la C hR hE hst hls hla hc hs eR eT)
theorem X_ifnull {M : Mt} {lv : Nat} {K : Option Value → AH → Prop} {T : String → AH → Prop} {rc rs pc : Nat} {ls : List (Nat × Value)} {st : List Value} {h : AH} {a : Nat} {off : Int} {tgt : Nat} (hd : decode M.2.1 pc = .ok (.ifnull off, 3)) (ht : (pc : Int) + off = (tgt : Int)) (k : (a = 0 → X M lv K T rc rs tgt ls st h) ∧ (¬ a = 0 → X M lv K T rc rs (pc + 3) ls st h)) : X M lv K T rc rs pc ls (.ref a :: st) h := by
  intro p l e R s m args below meth c D tc A n0 ad0 h0 Q ad H locs cells slots la C hR hE hst hls hla hc hs eR eT
  obtain ⟨hx, hb, hml, hret, hts, hown, hlk, htab, hns, hini, hfr, hlo⟩ := id C
  rw [List.map_cons]
  by_cases z : a = 0
  · have k9 := ((k.1 z) p l e R s m args below meth c D tc A n0 ad0 h0 Q ad H locs cells slots la C hR hE (fun v hv => hst v (List.mem_cons_of_mem _ hv)) hls hla hc hs eR eT)
    subst z
    exact lv_ifnullN hx hb hd ht k9
  · have k9 := ((k.2 z) p l e R s m args below meth c D tc A n0 ad0 h0 Q ad H locs cells slots la C hR hE (fun v hv => hst v (List.mem_cons_of_mem _ hv)) hls hla hc hs eR eT)
    rw [cv_ref z]
    exact lv_ifnull hx hb hd k9
theorem X_ifnonnull {M : Mt} {lv : Nat} {K : Option Value → AH → Prop} {T : String → AH → Prop} {rc rs pc : Nat} {ls : List (Nat × Value)} {st : List Value} {h : AH} {a : Nat} {off : Int} {tgt : Nat} (hd : decode M.2.1 pc = .ok (.ifnonnull off, 3)) (ht : (pc : Int) + off = (tgt : Int)) (k : (a = 0 → X M lv K T rc rs (pc + 3) ls st h) ∧ (¬ a = 0 → X M lv K T rc rs tgt ls st h)) : X M lv K T rc rs pc ls (.ref a :: st) h := by
  intro p l e R s m args below meth c D tc A n0 ad0 h0 Q ad H locs cells slots la C hR hE hst hls hla hc hs eR eT
  obtain ⟨hx, hb, hml, hret, hts, hown, hlk, htab, hns, hini, hfr, hlo⟩ := id C
  rw [List.map_cons]
  by_cases z : a = 0
  · have k9 := ((k.1 z) p l e R s m args below meth c D tc A n0 ad0 h0 Q ad H locs cells slots la C hR hE (fun v hv => hst v (List.mem_cons_of_mem _ hv)) hls hla hc hs eR eT)
    subst z
    exact lv_ifnonnullN hx hb hd k9
  · have k9 := ((k.2 z) p l e R s m args below meth c D tc A n0 ad0 h0 Q ad H locs cells slots la C hR hE (fun v hv => hst v (List.mem_cons_of_mem _ hv)) hls hla hc hs eR eT)
    rw [cv_ref z]
    exact lv_ifnonnull hx hb hd ht k9
theorem X_tableIn {M : Mt} {lv : Nat} {K : Option Value → AH → Prop} {T : String → AH → Prop} {rc rs pc : Nat} {ls : List (Nat × Value)} {st : List Value} {h : AH} {dflt lo hi : Int} {offs : Array Int} {len : Nat} {x : Int32} {off : Int} {tgt : Nat} (hd : decode M.2.1 pc = .ok (.tableswitch dflt lo hi offs, len)) (h1 : ¬ x.toInt < lo) (h2 : ¬ hi < x.toInt) (ho : offs[(x.toInt - lo).toNat]? = some off) (ht : (pc : Int) + off = (tgt : Int)) (k : X M lv K T rc rs tgt ls st h) : X M lv K T rc rs pc ls (.int x :: st) h := by
  intro p l e R s m args below meth c D tc A n0 ad0 h0 Q ad H locs cells slots la C hR hE hst hls hla hc hs eR eT
  obtain ⟨hx, hb, hml, hret, hts, hown, hlk, htab, hns, hini, hfr, hlo⟩ := id C
  exact lv_tableIn hx hb hd h1 h2 ho ht (k p l e R s m args below meth c D tc A n0 ad0 h0 Q ad H locs cells slots la C hR hE (fun v hv => hst v (List.mem_cons_of_mem _ hv)) hls hla hc hs eR eT)
theorem X_tableOut {M : Mt} {lv : Nat} {K : Option Value → AH → Prop} {T : String → AH → Prop} {rc rs pc : Nat} {ls : List (Nat × Value)} {st : List Value} {h : AH} {dflt lo hi : Int} {offs : Array Int} {len : Nat} {x : Int32} {tgt : Nat} (hd : decode M.2.1 pc = .ok (.tableswitch dflt lo hi offs, len)) (h1 : x.toInt < lo ∨ hi < x.toInt) (ht : (pc : Int) + dflt = (tgt : Int)) (k : X M lv K T rc rs tgt ls st h) : X M lv K T rc rs pc ls (.int x :: st) h := by
  intro p l e R s m args below meth c D tc A n0 ad0 h0 Q ad H locs cells slots la C hR hE hst hls hla hc hs eR eT
  obtain ⟨hx, hb, hml, hret, hts, hown, hlk, htab, hns, hini, hfr, hlo⟩ := id C
  exact lv_tableOut hx hb hd h1 ht (k p l e R s m args below meth c D tc A n0 ad0 h0 Q ad H locs cells slots la C hR hE (fun v hv => hst v (List.mem_cons_of_mem _ hv)) hls hla hc hs eR eT)
theorem X_lookup {M : Mt} {lv : Nat} {K : Option Value → AH → Prop} {T : String → AH → Prop} {rc rs pc : Nat} {ls : List (Nat × Value)} {st : List Value} {h : AH} {dflt : Int} {ps : Array (Int × Int)} {len : Nat} {x : Int32} {off : Int} {tgt : Nat} (hd : decode M.2.1 pc = .ok (.lookupswitch dflt ps, len)) (hp : (ps.toList.zip (ps.toList.drop 1)).all (fun (a, next) => a.1 < next.1) = true) (ho : Op.lookupswitch.offset ps.toList dflt x.toInt = off) (ht : (pc : Int) + off = (tgt : Int)) (k : X M lv K T rc rs tgt ls st h) : X M lv K T rc rs pc ls (.int x :: st) h := by
  intro p l e R s m args below meth c D tc A n0 ad0 h0 Q ad H locs cells slots la C hR hE hst hls hla hc hs eR eT
  obtain ⟨hx, hb, hml, hret, hts, hown, hlk, htab, hns, hini, hfr, hlo⟩ := id C
  exact lv_lookup hx hb hd hp ho ht (k p l e R s m args below meth c D tc A n0 ad0 h0 Q ad H locs cells slots la C hR hE (fun v hv => hst v (List.mem_cons_of_mem _ hv)) hls hla hc hs eR eT)
theorem X_iret {M : Mt} {lv : Nat} {K : Option Value → AH → Prop} {T : String → AH → Prop} {rc rs pc : Nat} {ls : List (Nat × Value)} {h : AH} {x : Int32} (hr : rok M pc (some (.int x))) (hK : K (some (.int x)) h) : X M lv K T rc rs pc ls [.int x] h := by
  intro p l e R s m args below meth c D tc A n0 ad0 h0 Q ad H locs cells slots la C hR hE hst hls hla hc hs eR eT
  obtain ⟨hx, hb, hml, hret, hts, hown, hlk, htab, hns, hini, hfr, hlo⟩ := id C
  exact eR ad h H locs cells slots (some (.int x)) pc la hR hE (fun v hv => hst v (by simpa using hv)) hK (by omega) (by omega) hr
theorem X_lret {M : Mt} {lv : Nat} {K : Option Value → AH → Prop} {T : String → AH → Prop} {rc rs pc : Nat} {ls : List (Nat × Value)} {h : AH} {x : Int64} (hr : rok M pc (some (.long x))) (hK : K (some (.long x)) h) : X M lv K T rc rs pc ls [.long x] h := by
  intro p l e R s m args below meth c D tc A n0 ad0 h0 Q ad H locs cells slots la C hR hE hst hls hla hc hs eR eT
  obtain ⟨hx, hb, hml, hret, hts, hown, hlk, htab, hns, hini, hfr, hlo⟩ := id C
  exact eR ad h H locs cells slots (some (.long x)) pc la hR hE (fun v hv => hst v (by simpa using hv)) hK (by omega) (by omega) hr
theorem X_fret {M : Mt} {lv : Nat} {K : Option Value → AH → Prop} {T : String → AH → Prop} {rc rs pc : Nat} {ls : List (Nat × Value)} {h : AH} {x : UInt32} (hr : rok M pc (some (.float x))) (hK : K (some (.float x)) h) : X M lv K T rc rs pc ls [.float x] h := by
  intro p l e R s m args below meth c D tc A n0 ad0 h0 Q ad H locs cells slots la C hR hE hst hls hla hc hs eR eT
  obtain ⟨hx, hb, hml, hret, hts, hown, hlk, htab, hns, hini, hfr, hlo⟩ := id C
  exact eR ad h H locs cells slots (some (.float x)) pc la hR hE (fun v hv => hst v (by simpa using hv)) hK (by omega) (by omega) hr
theorem X_dret {M : Mt} {lv : Nat} {K : Option Value → AH → Prop} {T : String → AH → Prop} {rc rs pc : Nat} {ls : List (Nat × Value)} {h : AH} {x : UInt64} (hr : rok M pc (some (.double x))) (hK : K (some (.double x)) h) : X M lv K T rc rs pc ls [.double x] h := by
  intro p l e R s m args below meth c D tc A n0 ad0 h0 Q ad H locs cells slots la C hR hE hst hls hla hc hs eR eT
  obtain ⟨hx, hb, hml, hret, hts, hown, hlk, htab, hns, hini, hfr, hlo⟩ := id C
  exact eR ad h H locs cells slots (some (.double x)) pc la hR hE (fun v hv => hst v (by simpa using hv)) hK (by omega) (by omega) hr
theorem X_aret {M : Mt} {lv : Nat} {K : Option Value → AH → Prop} {T : String → AH → Prop} {rc rs pc : Nat} {ls : List (Nat × Value)} {h : AH} {x : Nat} (hr : rok M pc (some (.ref x))) (hK : K (some (.ref x)) h) : X M lv K T rc rs pc ls [.ref x] h := by
  intro p l e R s m args below meth c D tc A n0 ad0 h0 Q ad H locs cells slots la C hR hE hst hls hla hc hs eR eT
  obtain ⟨hx, hb, hml, hret, hts, hown, hlk, htab, hns, hini, hfr, hlo⟩ := id C
  exact eR ad h H locs cells slots (some (.ref x)) pc la hR hE (fun v hv => hst v (by simpa using hv)) hK (by omega) (by omega) hr
theorem X_vret {M : Mt} {lv : Nat} {K : Option Value → AH → Prop} {T : String → AH → Prop} {rc rs pc : Nat} {ls : List (Nat × Value)} {h : AH} (hr : rok M pc none) (hK : K none h) : X M lv K T rc rs pc ls [] h := by
  intro p l e R s m args below meth c D tc A n0 ad0 h0 Q ad H locs cells slots la C hR hE hst hls hla hc hs eR eT
  obtain ⟨hx, hb, hml, hret, hts, hown, hlk, htab, hns, hini, hfr, hlo⟩ := id C
  exact eR ad h H locs cells slots none pc la hR hE (fun v hv => absurd hv (by simp)) hK (by omega) (by omega) hr
