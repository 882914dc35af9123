/-! THE CLASS'S CELLS: what they hold, in words of lists and numbers -/
theorem isO_uI (h : AH) (b j : Nat) (v : Int32) (a c : Nat) : isO (uI h b j v) a c = isO h a c := rfl
theorem isA_uI (h : AH) (b j : Nat) (v : Int32) (a c : Nat) : isA (uI h b j v) a c = isA h a c := rfl
theorem ln_uI (h : AH) (b j : Nat) (v : Int32) (a : Nat) : ln (uI h b j v) a = ln h a := rfl
theorem isO_uR (h : AH) (b j : Nat) (v : Nat) (a c : Nat) : isO (uR h b j v) a c = isO h a c := rfl
theorem isA_uR (h : AH) (b j : Nat) (v : Nat) (a c : Nat) : isA (uR h b j v) a c = isA h a c := rfl
theorem ln_uR (h : AH) (b j : Nat) (v : Nat) (a : Nat) : ln (uR h b j v) a = ln h a := rfl
theorem isO_uL (h : AH) (b j : Nat) (v : Int64) (a c : Nat) : isO (uL h b j v) a c = isO h a c := rfl
theorem isA_uL (h : AH) (b j : Nat) (v : Int64) (a c : Nat) : isA (uL h b j v) a c = isA h a c := rfl
theorem ln_uL (h : AH) (b j : Nat) (v : Int64) (a : Nat) : ln (uL h b j v) a = ln h a := rfl
theorem isO_uA (h : AH) (b : Nat) (f : Nat → Int32) (a c : Nat) : isO (uA h b f) a c = isO h a c := rfl
theorem isA_uA (h : AH) (b : Nat) (f : Nat → Int32) (a c : Nat) : isA (uA h b f) a c = isA h a c := rfl
theorem ln_uA (h : AH) (b : Nat) (f : Nat → Int32) (a : Nat) : ln (uA h b f) a = ln h a := rfl
/-- the line: how many blocks, their lengths, their left and right exits, the stems of the points, links, the shut blocks, the stems that lie to the right -/
abbrev LG : Type := Nat × (Nat → Nat) × (Nat → Option Nat) × (Nat → Option Nat) × List Nat × Nat × Nat × Nat
def gn (G : LG) : Nat := G.1
def gl (G : LG) : Nat → Nat := G.2.1
def gf (G : LG) : Nat → Option Nat := G.2.2.1
def gr (G : LG) : Nat → Option Nat := G.2.2.2.1
def gp (G : LG) : List Nat := G.2.2.2.2.1
def gk (G : LG) : Nat := G.2.2.2.2.2.1
def gh (G : LG) : Nat := G.2.2.2.2.2.2.1
def gd (G : LG) : Nat := G.2.2.2.2.2.2.2
/-- a train: number, block, destination, the blocks ahead of it on its set route, when it enters the next, delay -/
abbrev TG : Type := Nat × Nat × Nat × List Nat × Nat × Nat
def tn (t : TG) : Nat := t.1
def tb (t : TG) : Nat := t.2.1
def td (t : TG) : Nat := t.2.2.1
def tr (t : TG) : List Nat := t.2.2.2.1
def tu (t : TG) : Nat := t.2.2.2.2.1
def tl (t : TG) : Nat := t.2.2.2.2.2
/-- a state: the line, the trains, the queue, trains that came, that went, the time, all delays -/
abbrev AG : Type := LG × List TG × List Nat × Nat × Nat × Nat × Nat
def aL (A : AG) : LG := A.1
def aT (A : AG) : List TG := A.2.1
def aQ (A : AG) : List Nat := A.2.2.1
def aC (A : AG) : Nat := A.2.2.2.1
def aO (A : AG) : Nat := A.2.2.2.2.1
def aM (A : AG) : Nat := A.2.2.2.2.2.1
def aD (A : AG) : Nat := A.2.2.2.2.2.2
def ex (G : LG) (b e : Nat) : Prop := gf G b = some e ∨ gr G b = some e
/-- what the routes to a block are told by: how far each block is (16 for each unit of length, 1 for each block), and the next block -/
def Bst (G : LG) (to : Nat) (D N : Nat → Option Nat) : Prop := D to = some 0 ∧ N to = none ∧ ∀ b, b < gn G → b ≠ to →
  (D b = none → N b = none ∧ ∀ e, ex G b e → D e = none) ∧
  (∀ d, D b = some d → ∃ e d', N b = some e ∧ ex G b e ∧ D e = some d' ∧ d = d' + 16 * gl G e + 1 ∧ ∀ e2 d2, ex G b e2 → D e2 = some d2 → d ≤ d2 + 16 * gl G e2 + 1 ∧ (d = d2 + 16 * gl G e2 + 1 → e ≤ e2))
noncomputable def bq (G : LG) (to : Nat) : (Nat → Option Nat) × (Nat → Option Nat) := @dite _ (∃ q : (Nat → Option Nat) × (Nat → Option Nat), Bst G to q.1 q.2) (Classical.propDecidable _) (fun h => Classical.choose h) (fun _ => (fun _ => none, fun _ => none))
noncomputable def nx (G : LG) (to b : Nat) : Option Nat := (bq G to).2 b
noncomputable def ds (G : LG) (to b : Nat) : Option Nat := (bq G to).1 b
noncomputable def rtf (G : LG) (to : Nat) : Nat → Nat → List Nat
  | 0, _ => []
  | f + 1, b => match nx G to b with
    | none => []
    | some c => c :: rtf G to f c
/-- the blocks of a route behind its first one -/
noncomputable def rt (G : LG) (b to : Nat) : List Nat := rtf G to 12 b
def BX (G : LG) : Prop := ∀ to, to < gn G → ∃ D N, Bst G to D N
def IL (G : LG) : Prop := gn G ≤ 12 ∧ (∀ b, b < gn G → 1 ≤ gl G b ∧ gl G b ≤ 9) ∧ (∀ b, b < gn G → (gf G b = none ∧ gr G b = none) ∨ ∃ l r, gf G b = some l ∧ gr G b = some r ∧ l < gn G ∧ r < gn G ∧ l ≠ b ∧ r ≠ b) ∧ (gp G).Nodup ∧ (gp G).length ≤ 8 ∧ (∀ s ∈ gp G, s < gn G ∧ gf G s ≠ gr G s) ∧ (∀ b, b < gn G → gf G b ≠ gr G b → b ∈ gp G) ∧ gh G < 2 ^ gn G ∧ (∀ b, (gd G).testBit b = true → b ∈ gp G) ∧ (List.range (gn G)).countP (fun b => (gf G b).isSome) = (gp G).length + gk G
def lS (o : Nat) : Nat × Nat := if o = 0 then (3, 0) else if o = 4 then (100, 8) else if o = 5 ∨ o = 18 then (108, 12) else (100, 12)
def lR (k : Nat) : Nat := if k < 10 then k - 4 else if k = 10 then 18 else 31
def shL (h : AH) (a : Nat) : Prop := 64 ≤ a ∧ (∀ o, o < 32 → mS h (a + o) = lS o) ∧ (∀ k, 5 ≤ k → k < 12 → mR h a k = a + lR k) ∧ (∀ i, i < 12 → mR h (a + 5) i = a + 6 + i) ∧ ∀ i, i < 12 → mR h (a + 18) i = a + 19 + i
theorem shL.z {h : AH} {a : Nat} (s : shL h a) (k : Nat) : nZ ≤ a + k := Nat.le_trans s.1 (Nat.le_add_right a k)
theorem shL.o {h : AH} {a : Nat} (s : shL h a) : isO h a 2 := s.2.1 0 (by decide)
theorem shL.m5 {h : AH} {a : Nat} (s : shL h a) : mR h a 5 = a + 1 := s.2.2.1 5 (by decide) (by decide)
theorem shL.m6 {h : AH} {a : Nat} (s : shL h a) : mR h a 6 = a + 2 := s.2.2.1 6 (by decide) (by decide)
theorem shL.m7 {h : AH} {a : Nat} (s : shL h a) : mR h a 7 = a + 3 := s.2.2.1 7 (by decide) (by decide)
theorem shL.m8 {h : AH} {a : Nat} (s : shL h a) : mR h a 8 = a + 4 := s.2.2.1 8 (by decide) (by decide)
theorem shL.m9 {h : AH} {a : Nat} (s : shL h a) : mR h a 9 = a + 5 := s.2.2.1 9 (by decide) (by decide)
theorem shL.m10 {h : AH} {a : Nat} (s : shL h a) : mR h a 10 = a + 18 := s.2.2.1 10 (by decide) (by decide)
theorem shL.m11 {h : AH} {a : Nat} (s : shL h a) : mR h a 11 = a + 31 := s.2.2.1 11 (by decide) (by decide)
theorem shL.a1 {h : AH} {a : Nat} (s : shL h a) : isA h (a + 1) 0 := congrArg Prod.fst (s.2.1 1 (by decide))
theorem shL.a2 {h : AH} {a : Nat} (s : shL h a) : isA h (a + 2) 0 := congrArg Prod.fst (s.2.1 2 (by decide))
theorem shL.a3 {h : AH} {a : Nat} (s : shL h a) : isA h (a + 3) 0 := congrArg Prod.fst (s.2.1 3 (by decide))
theorem shL.a4 {h : AH} {a : Nat} (s : shL h a) : isA h (a + 4) 0 := congrArg Prod.fst (s.2.1 4 (by decide))
theorem shL.a5 {h : AH} {a : Nat} (s : shL h a) : isA h (a + 5) 8 := congrArg Prod.fst (s.2.1 5 (by decide))
theorem shL.a18 {h : AH} {a : Nat} (s : shL h a) : isA h (a + 18) 8 := congrArg Prod.fst (s.2.1 18 (by decide))
theorem shL.a31 {h : AH} {a : Nat} (s : shL h a) : isA h (a + 31) 0 := congrArg Prod.fst (s.2.1 31 (by decide))
theorem shL.l1 {h : AH} {a : Nat} (s : shL h a) : ln h (a + 1) = 12 := congrArg Prod.snd (s.2.1 1 (by decide))
theorem shL.l2 {h : AH} {a : Nat} (s : shL h a) : ln h (a + 2) = 12 := congrArg Prod.snd (s.2.1 2 (by decide))
theorem shL.l3 {h : AH} {a : Nat} (s : shL h a) : ln h (a + 3) = 12 := congrArg Prod.snd (s.2.1 3 (by decide))
theorem shL.l4 {h : AH} {a : Nat} (s : shL h a) : ln h (a + 4) = 8 := congrArg Prod.snd (s.2.1 4 (by decide))
theorem shL.l5 {h : AH} {a : Nat} (s : shL h a) : ln h (a + 5) = 12 := congrArg Prod.snd (s.2.1 5 (by decide))
theorem shL.l18 {h : AH} {a : Nat} (s : shL h a) : ln h (a + 18) = 12 := congrArg Prod.snd (s.2.1 18 (by decide))
theorem shL.l31 {h : AH} {a : Nat} (s : shL h a) : ln h (a + 31) = 12 := congrArg Prod.snd (s.2.1 31 (by decide))
theorem shL.r5 {h : AH} {a : Nat} (s : shL h a) {t : Nat} (ht : t < 12) : mR h (a + 5) t = a + 6 + t := s.2.2.2.1 t ht
theorem shL.r18 {h : AH} {a : Nat} (s : shL h a) {t : Nat} (ht : t < 12) : mR h (a + 18) t = a + 19 + t := s.2.2.2.2 t ht
theorem lS_row {t : Nat} (ht : t < 12) : lS (6 + t) = (100, 12) ∧ lS (19 + t) = (100, 12) := by
  unfold lS
  exact ⟨by rw [if_neg (by omega), if_neg (by omega), if_neg (by omega)], by rw [if_neg (by omega), if_neg (by omega), if_neg (by omega)]⟩
theorem shL.a6 {h : AH} {a : Nat} (s : shL h a) {t : Nat} (ht : t < 12) : isA h (a + 6 + t) 0 := by
  have := s.2.1 (6 + t) (by omega)
  rw [(lS_row ht).1, ← Nat.add_assoc] at this
  exact congrArg Prod.fst this
theorem shL.l6 {h : AH} {a : Nat} (s : shL h a) {t : Nat} (ht : t < 12) : ln h (a + 6 + t) = 12 := by
  have := s.2.1 (6 + t) (by omega)
  rw [(lS_row ht).1, ← Nat.add_assoc] at this
  exact congrArg Prod.snd this
theorem shL.a19 {h : AH} {a : Nat} (s : shL h a) {t : Nat} (ht : t < 12) : isA h (a + 19 + t) 0 := by
  have := s.2.1 (19 + t) (by omega)
  rw [(lS_row ht).2, ← Nat.add_assoc] at this
  exact congrArg Prod.fst this
theorem shL.l19 {h : AH} {a : Nat} (s : shL h a) {t : Nat} (ht : t < 12) : ln h (a + 19 + t) = 12 := by
  have := s.2.1 (19 + t) (by omega)
  rw [(lS_row ht).2, ← Nat.add_assoc] at this
  exact congrArg Prod.snd this
/-- the line's content but for its routes -/
def cnG (h : AH) (a : Nat) (G : LG) : Prop := mI h a 0 = nI (gn G) ∧ mI h a 1 = nI (gp G).length ∧ mI h a 2 = nI (gk G) ∧ mI h a 3 = nI (gh G) ∧ mI h a 4 = nI (gd G) ∧ (∀ b, b < gn G → mI h (a + 1) b = nI (gl G b)) ∧ (∀ b, b < gn G → mI h (a + 2) b = oI (gf G b)) ∧ (∀ b, b < gn G → mI h (a + 3) b = oI (gr G b)) ∧ ∀ p s, (gp G)[p]? = some s → mI h (a + 4) p = nI s
def cnR (h : AH) (a : Nat) (G : LG) : Prop := ∀ t b, t < gn G → b < gn G → mI h (a + 6 + t) b = oI (nx G t b) ∧ mI h (a + 19 + t) b = nI (bts (rt G b t))
def rpW (h : AH) (a : Nat) (G : LG) : Prop := shL h a ∧ cnG h a G ∧ IL G
def rpL (h : AH) (a : Nat) (G : LG) : Prop := rpW h a G ∧ cnR h a G ∧ BX G
/-- what may have changed: cells from lo on, below hi -/
def chg (lo hi : Nat) (h h' : AH) : Prop := mN h' = mN h ∧ mS h' = mS h ∧ ∀ a, (a < lo ∨ hi ≤ a) → mI h' a = mI h a ∧ mR h' a = mR h a ∧ mL h' a = mL h a
theorem chg.rf (lo hi : Nat) (h : AH) : chg lo hi h h := ⟨rfl, rfl, fun _ _ => ⟨rfl, rfl, rfl⟩⟩
theorem chg.tr {lo hi : Nat} {h h1 h2 : AH} (c : chg lo hi h h1) (d : chg lo hi h1 h2) : chg lo hi h h2 := ⟨d.1.trans c.1, d.2.1.trans c.2.1, fun a ha => ⟨(d.2.2 a ha).1.trans (c.2.2 a ha).1, (d.2.2 a ha).2.1.trans (c.2.2 a ha).2.1, (d.2.2 a ha).2.2.trans (c.2.2 a ha).2.2⟩⟩
theorem chg.mo {lo hi lo' hi' : Nat} {h g : AH} (c : chg lo hi h g) (h1 : lo' ≤ lo) (h2 : hi ≤ hi') : chg lo' hi' h g := ⟨c.1, c.2.1, fun a ha => c.2.2 a (by omega)⟩
theorem mI_o {h : AH} {a b j : Nat} {v : Int32} (hb : b ≠ a) : mI (uI h a j v) b = mI h b := by
  funext i
  rw [mI_uI, if_neg (fun z => hb z.1)]
theorem mR_o {h : AH} {a b j : Nat} {v : Nat} (hb : b ≠ a) : mR (uR h a j v) b = mR h b := by
  funext i
  rw [mR_uR, if_neg (fun z => hb z.1)]
theorem mL_o {h : AH} {a b j : Nat} {v : Int64} (hb : b ≠ a) : mL (uL h a j v) b = mL h b := by
  funext i
  rw [mL_uL, if_neg (fun z => hb z.1)]
theorem chg.uI {lo hi a j : Nat} {h : AH} {v : Int32} (h1 : lo ≤ a) (h2 : a < hi) : chg lo hi h (uI h a j v) := ⟨rfl, rfl, fun b hb => ⟨mI_o (by omega), rfl, rfl⟩⟩
theorem chg.uR {lo hi a j : Nat} {h : AH} {v : Nat} (h1 : lo ≤ a) (h2 : a < hi) : chg lo hi h (uR h a j v) := ⟨rfl, rfl, fun b hb => ⟨rfl, mR_o (by omega), rfl⟩⟩
theorem chg.uL {lo hi a j : Nat} {h : AH} {v : Int64} (h1 : lo ≤ a) (h2 : a < hi) : chg lo hi h (uL h a j v) := ⟨rfl, rfl, fun b hb => ⟨rfl, rfl, mL_o (by omega)⟩⟩
theorem chg.uA {lo hi a : Nat} {h : AH} {f : Nat → Int32} (h1 : lo ≤ a) (h2 : a < hi) : chg lo hi h (uA h a f) := ⟨rfl, rfl, fun b hb => ⟨mI_uAo (by omega), rfl, rfl⟩⟩
theorem shL.of {h h' : AH} {a : Nat} (s : shL h a) (hS : mS h' = mS h) (hR : ∀ k, mR h' a k = mR h a k) (h5 : ∀ k, mR h' (a + 5) k = mR h (a + 5) k) (h18 : ∀ k, mR h' (a + 18) k = mR h (a + 18) k) : shL h' a := ⟨s.1, fun o ho => by rw [hS]; exact s.2.1 o ho, fun k h1 h2 => by rw [hR]; exact s.2.2.1 k h1 h2, fun i hi => by rw [h5]; exact s.2.2.2.1 i hi, fun i hi => by rw [h18]; exact s.2.2.2.2 i hi⟩
theorem shL.fr {h h' : AH} {a lo hi : Nat} (s : shL h a) (c : chg lo hi h h') (hd : a + 32 ≤ lo ∨ hi ≤ a) : shL h' a := s.of c.2.1 (fun k => by rw [(c.2.2 a (by omega)).2.1]) (fun k => by rw [(c.2.2 (a + 5) (by omega)).2.1]) (fun k => by rw [(c.2.2 (a + 18) (by omega)).2.1])
theorem rpL.fr {h h' : AH} {a lo hi : Nat} {G : LG} (r : rpL h a G) (c : chg lo hi h h') (hd : a + 32 ≤ lo ∨ hi ≤ a) : rpL h' a G := by
  obtain ⟨⟨s, g, i⟩, q, x⟩ := r
  have e : ∀ k, k < 32 → mI h' (a + k) = mI h (a + k) := fun k hk => (c.2.2 (a + k) (by omega)).1
  obtain ⟨g1, g2, g3, g4, g5, g6, g7, g8, g9⟩ := g
  have e0 : mI h' a = mI h a := e 0 (by decide)
  refine ⟨⟨s.fr c hd, ⟨by rw [e0]; exact g1, by rw [e0]; exact g2, by rw [e0]; exact g3, by rw [e0]; exact g4, by rw [e0]; exact g5, fun b hb => by rw [e 1 (by decide)]; exact g6 b hb, fun b hb => by rw [e 2 (by decide)]; exact g7 b hb, fun b hb => by rw [e 3 (by decide)]; exact g8 b hb, fun p t hp => by rw [e 4 (by decide)]; exact g9 p t hp⟩, i⟩, fun t b ht hb => ?_, x⟩
  have h12 := i.1
  rw [Nat.add_assoc, Nat.add_assoc, e (6 + t) (by omega), e (19 + t) (by omega), ← Nat.add_assoc, ← Nat.add_assoc]
  exact q t b ht hb
/-- only numbers have changed, in cells from lo on, below hi -/
def chi (lo hi : Nat) (h h' : AH) : Prop := mN h' = mN h ∧ mS h' = mS h ∧ mR h' = mR h ∧ mL h' = mL h ∧ ∀ a, (a < lo ∨ hi ≤ a) → mI h' a = mI h a
theorem chi.rf (lo hi : Nat) (h : AH) : chi lo hi h h := ⟨rfl, rfl, rfl, rfl, fun _ _ => rfl⟩
theorem chi.tr {lo hi : Nat} {h h1 h2 : AH} (c : chi lo hi h h1) (d : chi lo hi h1 h2) : chi lo hi h h2 := ⟨d.1.trans c.1, d.2.1.trans c.2.1, d.2.2.1.trans c.2.2.1, d.2.2.2.1.trans c.2.2.2.1, fun a ha => (d.2.2.2.2 a ha).trans (c.2.2.2.2 a ha)⟩
theorem chi.mo {lo hi lo' hi' : Nat} {h g : AH} (c : chi lo hi h g) (h1 : lo' ≤ lo) (h2 : hi ≤ hi') : chi lo' hi' h g := ⟨c.1, c.2.1, c.2.2.1, c.2.2.2.1, fun a ha => c.2.2.2.2 a (by omega)⟩
theorem chi.uI {lo hi a j : Nat} {h : AH} {v : Int32} (h1 : lo ≤ a) (h2 : a < hi) : chi lo hi h (uI h a j v) := ⟨rfl, rfl, rfl, rfl, fun b hb => mI_o (by omega)⟩
theorem chi.uA {lo hi a : Nat} {h : AH} {f : Nat → Int32} (h1 : lo ≤ a) (h2 : a < hi) : chi lo hi h (uA h a f) := ⟨rfl, rfl, rfl, rfl, fun b hb => mI_uAo (by omega)⟩
theorem chi.chg {lo hi : Nat} {h h' : AH} (c : chi lo hi h h') : chg lo hi h h' := ⟨c.1, c.2.1, fun a ha => ⟨c.2.2.2.2 a ha, by rw [c.2.2.1], by rw [c.2.2.2.1]⟩⟩
theorem shL.ch {h h' : AH} {a lo hi : Nat} (s : shL h a) (c : chi lo hi h h') : shL h' a := s.of c.2.1 (fun k => by rw [c.2.2.1]) (fun k => by rw [c.2.2.1]) (fun k => by rw [c.2.2.1])
theorem cnG.ch {h h' : AH} {a lo hi : Nat} {G : LG} (g : cnG h a G) (c : chi lo hi h h') (hd : a + 5 ≤ lo ∨ hi ≤ a) : cnG h' a G := by
  have e : ∀ k, k < 5 → mI h' (a + k) = mI h (a + k) := fun k hk => c.2.2.2.2 (a + k) (by omega)
  obtain ⟨g1, g2, g3, g4, g5, g6, g7, g8, g9⟩ := g
  have e0 : mI h' a = mI h a := e 0 (by decide)
  exact ⟨by rw [e0]; exact g1, by rw [e0]; exact g2, by rw [e0]; exact g3, by rw [e0]; exact g4, by rw [e0]; exact g5, fun b hb => by rw [e 1 (by decide)]; exact g6 b hb, fun b hb => by rw [e 2 (by decide)]; exact g7 b hb, fun b hb => by rw [e 3 (by decide)]; exact g8 b hb, fun p t hp => by rw [e 4 (by decide)]; exact g9 p t hp⟩
/-- only numbers have changed, in cells of P -/
def chp (P : Nat → Prop) (h h' : AH) : Prop := mN h' = mN h ∧ mS h' = mS h ∧ mR h' = mR h ∧ mL h' = mL h ∧ ∀ a, ¬ P a → mI h' a = mI h a
theorem chp.rf (P : Nat → Prop) (h : AH) : chp P h h := ⟨rfl, rfl, rfl, rfl, fun _ _ => rfl⟩
theorem chp.tr {P : Nat → Prop} {h h1 h2 : AH} (c : chp P h h1) (d : chp P h1 h2) : chp P h h2 := ⟨d.1.trans c.1, d.2.1.trans c.2.1, d.2.2.1.trans c.2.2.1, d.2.2.2.1.trans c.2.2.2.1, fun a ha => (d.2.2.2.2 a ha).trans (c.2.2.2.2 a ha)⟩
theorem chp.mo {P Q : Nat → Prop} {h g : AH} (c : chp P h g) (hq : ∀ a, P a → Q a) : chp Q h g := ⟨c.1, c.2.1, c.2.2.1, c.2.2.2.1, fun a ha => c.2.2.2.2 a (fun z => ha (hq a z))⟩
theorem chp.uI {P : Nat → Prop} {a j : Nat} {h : AH} {v : Int32} (h1 : P a) : chp P h (uI h a j v) := ⟨rfl, rfl, rfl, rfl, fun b hb => mI_o (fun z => hb (z ▸ h1))⟩
theorem chp.chi {P : Nat → Prop} {lo hi : Nat} {h g : AH} (c : chp P h g) (hq : ∀ a, P a → lo ≤ a ∧ a < hi) : chi lo hi h g := ⟨c.1, c.2.1, c.2.2.1, c.2.2.2.1, fun a ha => c.2.2.2.2 a (fun z => by have := hq a z; omega)⟩
theorem chi.chp {P : Nat → Prop} {lo hi : Nat} {h g : AH} (c : chi lo hi h g) (hq : ∀ a, lo ≤ a → a < hi → P a) : chp P h g := ⟨c.1, c.2.1, c.2.2.1, c.2.2.2.1, fun a ha => c.2.2.2.2 a (by
  by_cases h1 : lo ≤ a
  · by_cases h2 : a < hi
    · exact absurd (hq a h1 h2) ha
    · omega
  · omega)⟩
/-- the cells that finding the routes to one block may change -/
def TP (a to q : Nat) : Prop := q = a + 6 + to ∨ q = a + 19 + to ∨ q = a + 31
