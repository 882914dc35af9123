/-! WHAT THE CALLS DO, over the abstract state: (code of the exception or 0, answer, state) -/
def iv (n : Nat) (x : Int32) : Option Nat := if x < nI 0 ∨ nI n ≤ x then none else some x.toNatClampNeg
theorem iv_j {n j : Nat} (hj : j < n) (hn : n < 2 ^ 31) : iv n (nI j) = some j := by
  unfold iv
  rw [if_neg, nI_clamp (by omega)]
  rw [lt0_f (by omega), nI_leI (by omega) (by omega)]
  simp
  omega
theorem iv_none {n : Nat} {x : Int32} (h : iv n x = none) : x < nI 0 ∨ nI n ≤ x := by
  unfold iv at h
  by_cases z : x < nI 0 ∨ nI n ≤ x
  · exact z
  · rw [if_neg z] at h
    cases h
theorem iv_some {n j : Nat} {x : Int32} (hn : n < 2 ^ 31) (h : iv n x = some j) : j < n ∧ x = nI j := by
  rcases ix_of x n hn with z | ⟨k, hk, rfl⟩
  · unfold iv at h
    rw [if_pos z] at h
    cases h
  · rw [iv_j hk hn] at h
    cases h
    exact ⟨hk, rfl⟩
theorem iv_cases (n : Nat) (hn : n < 2 ^ 31) (x : Int32) : (iv n x = none ∧ (x < nI 0 ∨ nI n ≤ x)) ∨ ∃ j, j < n ∧ x = nI j ∧ iv n x = some j := by
  cases h : iv n x with
  | none => exact Or.inl ⟨rfl, iv_none h⟩
  | some j => obtain ⟨h1, h2⟩ := iv_some hn h; exact Or.inr ⟨j, h1, h2, rfl⟩
def ups {α : Type} (f : Nat → α) (a : Nat) (v : α) : Nat → α := fun b => if b = a then v else f b
theorem ups_s {α : Type} (f : Nat → α) (a : Nat) (v : α) : ups f a v a = v := if_pos rfl
theorem ups_o {α : Type} {f : Nat → α} {a b : Nat} {v : α} (h : b ≠ a) : ups f a v b = f b := if_neg h
def gBlock (G : LG) (k : Nat) : LG := (gn G + 1, ups (gl G) (gn G) k, ups (gf G) (gn G) none, ups (gr G) (gn G) none, gp G, gk G, gh G, gd G)
def gPoint (G : LG) (s l r : Nat) : LG := (gn G, gl G, ups (gf G) s (some l), ups (gr G) s (some r), gp G ++ [s], gk G, gh G, gd G)
def gLink (G : LG) (f t : Nat) : LG := (gn G, gl G, ups (gf G) f (some t), ups (gr G) f (some t), gp G, gk G + 1, gh G, gd G)
def gShut (G : LG) (m : Nat) : LG := (gn G, gl G, gf G, gr G, gp G, gk G, m, gd G)
def gSide (G : LG) (m : Nat) : LG := (gn G, gl G, gf G, gr G, gp G, gk G, gh G, m)
def wL (A : AG) (G : LG) : AG := (G, A.2)
def wT (A : AG) (T : List TG) : AG := (A.1, T, A.2.2)
def wQ (A : AG) (Q : List Nat) : AG := (A.1, A.2.1, Q, A.2.2.2)
abbrev RsA : Type := Nat × Int32 × AG
def oBlock (A : AG) (x : Int32) : RsA := if x < nI 1 ∨ nI 9 < x then (1, nI 0, A) else if gn (aL A) = 12 then (2, nI 0, A) else (0, nI (gn (aL A)), wL A (gBlock (aL A) x.toNatClampNeg))
def oPoint (A : AG) (x y z : Int32) : RsA := match iv (gn (aL A)) x, iv (gn (aL A)) y, iv (gn (aL A)) z with
  | some s, some l, some r => if s = l ∨ s = r ∨ l = r then (2, nI 0, A) else if (gp (aL A)).length = 8 ∨ (gf (aL A) s).isSome then (3, nI 0, A) else (0, nI (gp (aL A)).length, wL A (gPoint (aL A) s l r))
  | _, _, _ => (1, nI 0, A)
def oLink (A : AG) (x y : Int32) : RsA := match iv (gn (aL A)) x, iv (gn (aL A)) y with
  | some f, some t => if f = t then (2, nI 0, A) else if (gf (aL A) f).isSome then (3, nI 0, A) else (0, nI (gk (aL A) + 1), wL A (gLink (aL A) f t))
  | _, _ => (1, nI 0, A)
/-- the blocks that a train occupies or has reserved -/
def th_ (t : TG) : List Nat := tb t :: tr t
def resv (A : AG) (b : Nat) : Bool := (aT A).any (fun t => decide (b ∈ tr t))
def occ (A : AG) (b : Nat) : Bool := (aT A).any (fun t => decide (tb t = b))
def hold (A : AG) (b : Nat) : Option TG := (aT A).find? (fun t => decide (b ∈ th_ t))
def fre (A : AG) (b : Nat) : Bool := !(gh (aL A)).testBit b && !resv A b && !occ A b
/-- a block's state, as its sign -/
def stc (A : AG) (b : Nat) : Nat := if (gh (aL A)).testBit b then 115 else if resv A b then 114 else if occ A b then 111 else 102
def lkr (A : AG) (s : Nat) : Option TG := (aT A).find? (fun t => decide (tr t ≠ [] ∧ s ≠ td t ∧ s ∈ th_ t))
def oShut (A : AG) (x : Int32) : RsA := match iv (gn (aL A)) x with
  | none => (1, nI 0, A)
  | some b => if (gh (aL A)).testBit b = true ∨ resv A b = true then (2, nI 0, A) else (0, nI (pc (gh (aL A) ||| 2 ^ b)), wL A (gShut (aL A) (gh (aL A) ||| 2 ^ b)))
def oOpen (A : AG) (x : Int32) : RsA := match iv (gn (aL A)) x with
  | none => (1, nI 0, A)
  | some b => if (gh (aL A)).testBit b = true then (0, nI (pc (clr (gh (aL A)) b)), wL A (gShut (aL A) (clr (gh (aL A)) b))) else (2, nI 0, A)
def oThrow (A : AG) (x : Int32) : RsA := match iv (gp (aL A)).length x with
  | none => (1, nI 0, A)
  | some p => match (gp (aL A))[p]? with
    | none => (1, nI 0, A)
    | some s => if (lkr A s).isSome then (2, nI 0, A) else (0, if (gd (aL A)).testBit s then nI 1 else nI 0, wL A (gSide (aL A) (gd (aL A) ^^^ 2 ^ s)))
def oTrain (A : AG) (x y : Int32) : RsA := match iv (gn (aL A)) x, iv (gn (aL A)) y with
  | some b, some d => if b = d then (2, nI 0, A) else if (aT A).length = 8 ∨ fre A b = false then (3, nI 0, A) else (0, nI (aC A), (aL A, aT A ++ [(aC A, b, d, [], 0, 0)], aQ A ++ [aC A], aC A + 1, aO A, aM A, aD A))
  | _, _ => (1, nI 0, A)
def fnd (A : AG) (x : Int32) : Option TG := (aT A).find? (fun t => decide (nI (tn t) = x))
/-- the sides along a way -/
def turn1 (G : LG) (b c : Nat) : LG := if gf G b = some c then gSide G (clr (gd G) b) else if gr G b = some c then gSide G (gd G ||| 2 ^ b) else G
def tnr (G : LG) : Nat → List Nat → LG
  | _, [] => G
  | b, c :: l => tnr (turn1 G b c) c l
noncomputable def rtT (A : AG) (t : TG) : List Nat := rt (aL A) (tb t) (td t)
/-- whether a train's route can be set -/
noncomputable def can (A : AG) (t : TG) : Bool := decide (tr t = []) && !decide (rtT A t = []) && (rtT A t).all (fun b => fre A b)
def upT (A : AG) (num : Nat) (f : TG → TG) : AG := wT A ((aT A).map (fun t => if tn t = num then f t else t))
noncomputable def setT (A : AG) (t : TG) : AG := upT (wL A (tnr (aL A) (tb t) (rtT A t))) (tn t) (fun u => (tn u, tb u, td u, rtT A t, aM A + gl (aL A) ((rtT A t).headD 0), tl u))
/-- why a route is refused: the sign, and the block -/
noncomputable def why (A : AG) (t : TG) : Nat × Option Nat := match (rtT A t).find? (fun b => !fre A b) with
  | none => (110, none)
  | some b => (stc A b, some b)
noncomputable def oSet (A : AG) (x : Int32) : RsA := match fnd A x with
  | none => (1, nI 0, A)
  | some t => if tr t ≠ [] then (2, nI 0, A) else if can A t then (0, nI (sl (aL A) (rtT A t)), wQ (setT A t) ((aQ A).filter (fun q => decide (q ≠ tn t)))) else (3, nI 0, A)
def oFree (A : AG) (x : Int32) : RsA := match fnd A x with
  | none => (1, nI 0, A)
  | some t => if tr t = [] then (2, nI 0, A) else (0, nI ((aQ A).length + 1), wQ (upT A (tn t) (fun u => (tn u, tb u, td u, [], tu u, tl u))) (aQ A ++ [tn t]))
def ent (G : LG) (m : Nat) (t : TG) : TG := match tr t with
  | [] => t
  | c :: l => if tu t = m then (tn t, c, td t, l, (match l with
    | [] => tu t
    | e :: _ => m + gl G e), tl t) else t
noncomputable def qGo : AG → List Nat → AG × List Nat
  | A, [] => (A, [])
  | A, num :: q => match fnd A (nI num) with
    | none => qGo A q
    | some t => if can A t then qGo (setT A t) q else
      let r := qGo (let A1 := upT A num (fun u => (tn u, tb u, td u, tr u, tu u, tl u + 1)); (aL A1, aT A1, aQ A1, aC A1, aO A1, aM A1, aD A1 + 1)) q
      (r.1, num :: r.2)
/-- what a minute does ahead of the queue -/
def mnt (A : AG) : AG := (aL A, ((aT A).map (ent (aL A) (aM A + 1))).filter (fun t => decide (tb t ≠ td t)), aQ A, aC A, aO A + ((aT A).map (ent (aL A) (aM A + 1))).countP (fun t => decide (tb t = td t)), aM A + 1, aD A)
noncomputable def min1 (A : AG) : AG := wQ (qGo (mnt A) (aQ A)).1 (qGo (mnt A) (aQ A)).2
noncomputable def mins : Nat → AG → AG
  | 0, A => A
  | k + 1, A => mins k (min1 A)
noncomputable def oPass (A : AG) (x : Int32) : RsA := if x < nI 1 ∨ nI 240 < x then (1, nI 0, A) else (0, nI (aO (mins x.toNatClampNeg A) - aO A), mins x.toNatClampNeg A)
/-- the negative answer that stands for an exception -/
def cr (cs : List Int32) (r : RsA) : Int32 := match r.1 with
  | 0 => r.2.1
  | k + 1 => cs.getD k 0
