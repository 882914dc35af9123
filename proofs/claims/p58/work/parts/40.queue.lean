/-! THE CLASS'S MINUTES: the queue is considered -/
section QU
variable {h : AH} {S a : Nat} {A : AG} {G : LG}
def IQ (B : AG) : Prop := IT B ∧ (∀ (i j : Nat) (t u : TG), (aT B)[i]? = some t → (aT B)[j]? = some u → tn u = tn t → j = i) ∧ ∀ t ∈ aT B, tn t < 2 ^ 31
theorem IQ.up {B C : AG} {num : Nat} {f : TG → TG} (i : IQ B) (hT : aT C = (aT B).map (fun u => if tn u = num then f u else u)) (hg : gn (aL C) = gn (aL B)) (hf : ∀ t ∈ aT B, tn t = num → tIn B (f t) ∧ tn (f t) = tn t) : IQ C := by
  obtain ⟨⟨i1, i2⟩, i3, i4⟩ := i
  have hn : ∀ t ∈ aT B, tn (if tn t = num then f t else t) = tn t := fun t ht => by
    by_cases e : tn t = num
    · rw [if_pos e]; exact (hf t ht e).2
    · rw [if_neg e]
  refine ⟨⟨by rw [hT, List.length_map]; exact i1, fun t ht => ?_⟩, fun x y t u hx hy e => ?_, fun t ht => ?_⟩
  · rw [hT] at ht
    obtain ⟨v, hv, rfl⟩ := List.mem_map.mp ht
    unfold tIn
    rw [hg]
    by_cases e : tn v = num
    · simp only [e, if_true]; exact (hf v hv e).1
    · simp only [e, if_false]; exact i2 v hv
  · rw [hT, List.getElem?_map] at hx hy
    cases hv : (aT B)[x]? with
    | none => rw [hv] at hx; cases hx
    | some v =>
      cases hw : (aT B)[y]? with
      | none => rw [hw] at hy; cases hy
      | some w =>
        rw [hv] at hx
        rw [hw] at hy
        cases hx
        cases hy
        have e9 : tn (if tn w = num then f w else w) = tn (if tn v = num then f v else v) := e
        rw [hn v (List.mem_of_getElem? hv), hn w (List.mem_of_getElem? hw)] at e9
        exact i3 x y v w hv hw e9
  · rw [hT] at ht
    obtain ⟨v, hv, rfl⟩ := List.mem_map.mp ht
    have := hn v hv
    show tn (if tn v = num then f v else v) < 2 ^ 31
    rw [this]
    exact i4 v hv
theorem IQ.setT {B : AG} {t : TG} (i : IQ B) (il : IL (aL B)) (x : BX (aL B)) (ht : t ∈ aT B) (hn : nx (aL B) (td t) (tb t) ≠ none) : IQ (setT B t) := by
  obtain ⟨t1, t2, t3⟩ := i.1.2 t ht
  refine i.up (B := B) (num := tn t) (f := fun u => (tn u, tb u, td u, rtT B t, aM B + gl (aL B) ((rtT B t).headD 0), tl u)) rfl (tnr_fix (rtT B t) (aL B) (tb t)).1 (fun u hu _ => ⟨?_, rfl⟩)
  obtain ⟨u1, u2, -⟩ := i.1.2 u hu
  exact ⟨u1, u2, (rtF il (x.b t2) t1 hn).1⟩
end QU
