/-! PROGRAMS: the class runs them -/
def cn (c : CM) (q : Nat) : Int32 := nI (c.2.getD q 0)
/-- what a command does -/
noncomputable def exR (A : AG) (c : CM) : RsA := match c.1 with
  | 0 => oBlock A (cn c 0)
  | 1 => oPoint A (cn c 0) (cn c 1) (cn c 2)
  | 2 => oLink A (cn c 0) (cn c 1)
  | 3 => oTrain A (cn c 0) (cn c 1)
  | 4 => oSet A (cn c 0)
  | 5 => oFree A (cn c 0)
  | 6 => oShut A (cn c 0)
  | 7 => oOpen A (cn c 0)
  | 8 => oThrow A (cn c 0)
  | 9 => oPass A (nI 1)
  | _ => oPass A (cn c 0)
noncomputable def exX (X : BG) (c : CM) : BG := ((exR (bA X) c).2.2, (if c.1 = 4 then rfd (bA X) (cn c 0) X else X).2)
/-- a program's commands one after another: the box, and which one failed -/
noncomputable def rnC : BG → List CM → Nat → BG × Option Nat
  | X, [], _ => (X, none)
  | X, c :: l, i => if (exR (bA X) c).1 = 0 then rnC (exX X c) l (i + 1) else (exX X c, some i)
section RU
variable {h g h0 : AH} {p w : Nat} {X : BG} {K : Int32 → AH → Prop} {T : String → AH → Prop}
theorem nn_of {cs : List Int32} {r : RsA} (hr : rg cs.length r) (hc : ∀ j, j < cs.length → cs.getD j 0 < nI 0) : (r.1 = 0 → nI 0 ≤ cr cs r) ∧ (r.1 ≠ 0 → ¬ nI 0 ≤ cr cs r) := by
  obtain ⟨c, ans, B⟩ := r
  cases c with
  | zero =>
    obtain ⟨j, hj, e⟩ := hr.2 rfl
    have e : ans = nI j := e
    subst e
    exact ⟨fun _ => nI_pos' hj, fun z => absurd rfl z⟩
  | succ j =>
    have := hc j hr.1
    refine ⟨fun z => (by cases z), fun _ => ?_⟩
    show ¬ nI 0 ≤ cs.getD j 0
    rw [lt_nge this]
    exact id
theorem num_c (r : RBp g p X) {n i q : Nat} (h4 : mI g 587 4 = nI n) (hn : n ≤ 12) (hi : i < n) (hq : q < 3) (k : K (mI g (591 + i) q) g) : wX5_number 587 (nI i) (nI q) g K := by
  have s := r.1
  unfold wX5_number
  refine ⟨fun z => absurd z (by rw [lt0_f (by omega)]; exact id), fun _ => ⟨s.po, ?_⟩⟩
  rw [h4]
  refine ⟨fun z => absurd z (nI_ge hi (by omega)), fun _ => ⟨fun z => absurd z (by rw [lt0_f (by omega)]; exact id), fun _ => ⟨fun z => absurd z (nI_ge hq (by decide)), fun _ => ?_⟩⟩⟩
  unfold wX5_number_J26
  rw [s.p3, s.pl3, nI_clamp (by omega), nI_clamp (by omega), s.pr (by omega), s.prl (by omega)]
  exact ⟨fun z => absurd z (by rw [n1_ne]; exact id), fun _ => ⟨s.po, s.pa3, by decide, vp_in_nI (by omega) (by decide), s.pra (by omega), vp_in_nI hq (by decide), k⟩⟩
theorem PX.up {w' : Nat} (i : PX w X) (h : w ≤ w') : PX w' X := ⟨⟨i.1.1, i.1.2.up h⟩, fun B hB => ⟨(i.2.1 B hB).1, (i.2.1 B hB).2.up h⟩, fun B hB => ⟨(i.2.2 B hB).1, (i.2.2 B hB).2.up h⟩⟩
/-- a command keeps what is known -/
theorem exR_k (gk : GK (bA X)) (b : BW w (bA X)) (hw : w ≤ 6200) (c : CM) : IP (exR (bA X) c).2.2 ∧ BW (w + 1) (exR (bA X) c).2.2 := by
  have il := gk.1
  have i := gk.2.2
  unfold exR
  split
  · exact ⟨ip_block i _, bw_block b _⟩
  · exact ⟨ip_point i il _ _ _, bw_point b _ _ _⟩
  · exact ⟨ip_link i il _ _, bw_link b _ _⟩
  · exact ⟨ip_train i il _ _, bw_train b _ _⟩
  · exact ⟨(gk_set gk _).2.2, bw_set b _⟩
  · exact ⟨ip_free i _, bw_free b _⟩
  · exact ⟨ip_shut i _, bw_shut b _⟩
  · exact ⟨ip_open i (by have := il.h12; omega) _, bw_open b _⟩
  · exact ⟨ip_throw i _, bw_throw b _⟩
  · exact ⟨(bw_pass b gk hw _).2.2.2, (bw_pass b gk hw _).1⟩
  · exact ⟨(bw_pass b gk hw _).2.2.2, (bw_pass b gk hw _).1⟩
theorem rfd_s (A : AG) (x : Int32) (X : BG) : bH (rfd A x X) = bH X ∧ bS (rfd A x X) = bS X ∧ bO (rfd A x X) = bO X ∧ bF (rfd A x X) = bF X ∧ bE (rfd A x X) = bE X ∧ bX (rfd A x X) = bX X ∧ bA (rfd A x X) = bA X := by
  unfold rfd
  cases fnd A x with
  | none => exact ⟨rfl, rfl, rfl, rfl, rfl, rfl, rfl⟩
  | some t =>
    simp only
    split
    · exact ⟨rfl, rfl, rfl, rfl, rfl, rfl, rfl⟩
    · exact ⟨rfl, rfl, rfl, rfl, rfl, rfl, rfl⟩
theorem exX_s (X : BG) (c : CM) : bH (exX X c) = bH X ∧ bS (exX X c) = bS X ∧ bO (exX X c) = bO X ∧ bF (exX X c) = bF X ∧ bE (exX X c) = bE X ∧ bX (exX X c) = bX X := by
  unfold exX
  by_cases e : c.1 = 4
  · rw [if_pos e]
    obtain ⟨a, b, c, d, e, f, -⟩ := rfd_s (bA X) (cn c 0) X
    exact ⟨a, b, c, d, e, f⟩
  · rw [if_neg e]
    exact ⟨rfl, rfl, rfl, rfl, rfl, rfl⟩
theorem PX.ex (i : PX w X) (gk : GK (bA X)) (hw : w ≤ 6200) (c : CM) : PX (w + 1) (exX X c) := by
  obtain ⟨h1, h2⟩ := exR_k gk i.1.2 hw c
  obtain ⟨s1, s2, -⟩ := exX_s X c
  have u := i.up (Nat.le_succ w)
  exact ⟨⟨h1, h2⟩, by rw [s1]; exact u.2.1, by rw [s2]; exact u.2.2⟩
theorem c_execute (r : RBp g p X) (t : stF g) (i : PX w X) (hw : w ≤ 6200) {n j : Nat} {cs : List CM} {c : CM} (h4 : mI g 587 4 = nI n) (hn : n ≤ 12) (hcs : cmS g 0 cs) (hl : cs.length = n) (hj : cs[j]? = some c) (k : ∀ v g', chg 64 108 g g' → RBp g' p (exX X c) → ((exR (bA X) c).1 = 0 → nI 0 ≤ v) → ((exR (bA X) c).1 ≠ 0 → ¬ nI 0 ≤ v) → K v g') : wX9_execute 64 (nI j) g K := by
  have hjn : j < n := by rw [← hl]; exact (List.getElem?_eq_some_iff.mp hj).1
  obtain ⟨kk, ns⟩ := c
  obtain ⟨d1, d2, d3, d4⟩ := hcs j kk ns hj
  rw [Nat.zero_add] at d1 d4
  have s := r.1
  have st := r.2.2.1
  have il : IL (aL (bA X)) := st.2.1.1.2.2
  have gk : GK (bA X) := st.gk i.1.1
  have bn : BN (bA X) := i.1.2.bn hw
  have row : ∀ q, q < wld (frm kk) → mI g (591 + j) q = cn (kk, ns) q := fun q hq => by
    have hq2 : q < ns.length := by omega
    have : ns[q]? = some (ns.getD q 0) := by
      rw [List.getD_eq_getElem?_getD, List.getElem?_eq_getElem hq2]
      rfl
    exact (d4 q _ this).1
  unfold wX9_execute
  rw [s.f5]
  refine ⟨s.o, s.po, num_c r h4 hn hjn (show 0 < 3 by decide) ⟨s.o, ?_⟩⟩
  rw [s.f5]
  refine ⟨s.po, num_c r h4 hn hjn (show 1 < 3 by decide) ⟨s.o, ?_⟩⟩
  rw [s.f5]
  refine ⟨s.po, num_c r h4 hn hjn (show 2 < 3 by decide) ⟨s.o, ?_⟩⟩
  rw [s.f5]
  refine ⟨s.po, ?_⟩
  unfold wX5_command
  refine ⟨fun z => absurd z (by rw [lt0_f (by omega)]; exact id), fun _ => ⟨s.po, ?_⟩⟩
  rw [h4]
  refine ⟨fun z => absurd z (nI_ge hjn (by omega)), fun _ => ?_⟩
  rw [s.p2, s.pl2, nI_clamp (by omega), d1]
  refine ⟨s.pa2, vp_in_nI (by omega) (by decide), ?_⟩
  obtain ⟨-, t2, t3, t4⟩ := t
  obtain ⟨k1, k2, k3, k4, -⟩ := t2 kk d2
  have l13 : ln g 13 = 11 := congrArg Prod.snd t3
  unfold wJord
  rw [k4]
  refine ⟨k2, by show 2 + kk < 64; omega, k2, by show 2 + kk < 64; omega, congrArg Prod.fst t3, by rw [l13]; exact vp_in_nI d2 (by decide), ?_⟩
  rw [nI_clamp (by omega), t4 kk d2, s.f0]
  have fin : ∀ (r0 : RsA) (cl : List Int32), rg cl.length r0 → (∀ j, j < cl.length → cl.getD j 0 < nI 0) → exR (bA X) (kk, ns) = r0 → ∀ g', chg 64 108 g g' → RBp g' p (exX X (kk, ns)) → K (cr cl r0) g' := fun r0 cl h1 h2 h3 g' h5 h6 => by
    obtain ⟨n1, n2⟩ := nn_of h1 h2
    exact k _ g' h5 h6 (by rw [h3]; exact n1) (by rw [h3]; exact n2)
  have m0 : mR g 65 0 = 66 := st.1.m0
  have lg : isO g 66 2 := st.1.lg.o
  have hk : kk = 0 ∨ kk = 1 ∨ kk = 2 ∨ kk = 3 ∨ kk = 4 ∨ kk = 5 ∨ kk = 6 ∨ kk = 7 ∨ kk = 8 ∨ kk = 9 ∨ kk = 10 := by omega
  rcases hk with rfl | rfl | rfl | rfl | rfl | rfl | rfl | rfl | rfl | rfl | rfl
  · refine ⟨fun _ => ?_, fun z => absurd z (by decide), fun z => absurd z (by decide), fun z => absurd z (by decide), fun z => absurd z (by decide), fun z => absurd z (by decide), fun z => absurd z (by decide), fun z => absurd z (by decide), fun z => absurd z (by decide), fun z => absurd z (by decide), fun z => absurd rfl z.1⟩
    rw [row 0 (by decide)]
    rw [m0]
    refine ⟨s.o, st.1.o, lg, c_makeBlock (R := (bA X).2) (G := aL (bA X)) st.2.1 (fun g2 c2 q2 => ?_)⟩
    have q3 := st.line c2 q2
    have e3 : wL (bA X) (aL (oBlock (bA X) (cn (0, ns) 0)).2.2) = (oBlock (bA X) (cn (0, ns) 0)).2.2 := wl_block _ _
    have q4 : rpS g2 65 (oBlock (bA X) (cn (0, ns) 0)).2.2 := e3 ▸ q3
    exact fin (oBlock (bA X) (cn (0, ns) 0)) [(-2), (-3)] (rg_block _ il) (by decide +kernel) rfl g2 (c2.chg.mo (by omega) (by omega)) (r.now (c2.chg.mo (by omega) (by omega)) q4)
  · refine ⟨fun z => absurd z (by decide), fun _ => ?_, fun z => absurd z (by decide), fun z => absurd z (by decide), fun z => absurd z (by decide), fun z => absurd z (by decide), fun z => absurd z (by decide), fun z => absurd z (by decide), fun z => absurd z (by decide), fun z => absurd z (by decide), fun z => absurd rfl z.2.1⟩
    rw [row 0 (by decide), row 1 (by decide), row 2 (by decide)]
    rw [m0]
    refine ⟨s.o, st.1.o, lg, c_makePoint (R := (bA X).2) (G := aL (bA X)) st.2.1 (fun g2 c2 q2 => ?_)⟩
    have q3 := st.line c2 q2
    have e3 : wL (bA X) (aL (oPoint (bA X) (cn (1, ns) 0) (cn (1, ns) 1) (cn (1, ns) 2)).2.2) = (oPoint (bA X) (cn (1, ns) 0) (cn (1, ns) 1) (cn (1, ns) 2)).2.2 := wl_point _ _ _ _
    have q4 : rpS g2 65 (oPoint (bA X) (cn (1, ns) 0) (cn (1, ns) 1) (cn (1, ns) 2)).2.2 := e3 ▸ q3
    exact fin (oPoint (bA X) (cn (1, ns) 0) (cn (1, ns) 1) (cn (1, ns) 2)) [(-1), (-2), (-3)] (rg_point _ _ _ il) (by decide +kernel) rfl g2 (c2.chg.mo (by omega) (by omega)) (r.now (c2.chg.mo (by omega) (by omega)) q4)
  · refine ⟨fun z => absurd z (by decide), fun z => absurd z (by decide), fun _ => ?_, fun z => absurd z (by decide), fun z => absurd z (by decide), fun z => absurd z (by decide), fun z => absurd z (by decide), fun z => absurd z (by decide), fun z => absurd z (by decide), fun z => absurd z (by decide), fun z => absurd rfl z.2.2.1⟩
    rw [row 0 (by decide), row 1 (by decide)]
    rw [m0]
    refine ⟨s.o, st.1.o, lg, c_makeLink (R := (bA X).2) (G := aL (bA X)) st.2.1 (fun g2 c2 q2 => ?_)⟩
    have q3 := st.line c2 q2
    have e3 : wL (bA X) (aL (oLink (bA X) (cn (2, ns) 0) (cn (2, ns) 1)).2.2) = (oLink (bA X) (cn (2, ns) 0) (cn (2, ns) 1)).2.2 := wl_link _ _ _
    have q4 : rpS g2 65 (oLink (bA X) (cn (2, ns) 0) (cn (2, ns) 1)).2.2 := e3 ▸ q3
    exact fin (oLink (bA X) (cn (2, ns) 0) (cn (2, ns) 1)) [(-1), (-2), (-3)] (rg_link _ _ il) (by decide +kernel) rfl g2 (c2.chg.mo (by omega) (by omega)) (r.now (c2.chg.mo (by omega) (by omega)) q4)
  · refine ⟨fun z => absurd z (by decide), fun z => absurd z (by decide), fun z => absurd z (by decide), fun _ => ?_, fun z => absurd z (by decide), fun z => absurd z (by decide), fun z => absurd z (by decide), fun z => absurd z (by decide), fun z => absurd z (by decide), fun z => absurd z (by decide), fun z => absurd rfl z.2.2.2.1⟩
    rw [row 0 (by decide), row 1 (by decide)]
    refine ⟨s.o, st.1.o, c_bringTrain st i.1.1 bn (fun g2 c2 q3 => ?_)⟩
    have c3 : chg 65 108 g g2 := by first | exact c2 | exact c2.chg
    exact fin (oTrain (bA X) (cn (3, ns) 0) (cn (3, ns) 1)) [(-1), (-2), (-3)] (rg_train _ _ bn) (by decide +kernel) rfl g2 (c3.mo (by omega) (by omega)) (r.now c3 q3)
  · refine ⟨fun z => absurd z (by decide), fun z => absurd z (by decide), fun z => absurd z (by decide), fun z => absurd z (by decide), fun _ => ?_, fun z => absurd z (by decide), fun z => absurd z (by decide), fun z => absurd z (by decide), fun z => absurd z (by decide), fun z => absurd z (by decide), fun z => absurd rfl z.2.2.2.2.1⟩
    rw [row 0 (by decide)]
    exact ⟨s.o, c_grantOrRecord r i hw (fun g2 c2 r2 => fin (oSet (bA X) (cn (4, ns) 0)) [(-4), (-3), (-5)] (rg_set _ gk) (by decide +kernel) rfl g2 c2 r2)⟩
  · refine ⟨fun z => absurd z (by decide), fun z => absurd z (by decide), fun z => absurd z (by decide), fun z => absurd z (by decide), fun z => absurd z (by decide), fun _ => ?_, fun z => absurd z (by decide), fun z => absurd z (by decide), fun z => absurd z (by decide), fun z => absurd z (by decide), fun z => absurd rfl z.2.2.2.2.2.1⟩
    rw [row 0 (by decide)]
    refine ⟨s.o, st.1.o, c_withdrawRoute st i.1.1 bn (fun g2 c2 q3 => ?_)⟩
    have c3 : chg 65 108 g g2 := by first | exact c2 | exact c2.chg
    exact fin (oFree (bA X) (cn (5, ns) 0)) [(-4), (-3)] (rg_free _ i.1.1) (by decide +kernel) rfl g2 (c3.mo (by omega) (by omega)) (r.now c3 q3)
  · refine ⟨fun z => absurd z (by decide), fun z => absurd z (by decide), fun z => absurd z (by decide), fun z => absurd z (by decide), fun z => absurd z (by decide), fun z => absurd z (by decide), fun _ => ?_, fun z => absurd z (by decide), fun z => absurd z (by decide), fun z => absurd z (by decide), fun z => absurd rfl z.2.2.2.2.2.2.1⟩
    rw [row 0 (by decide)]
    refine ⟨s.o, st.1.o, c_shutBlock st i.1.1 (fun g2 c2 q3 => ?_)⟩
    have c3 : chg 65 108 g g2 := by first | exact c2 | exact c2.chg
    exact fin (oShut (bA X) (cn (6, ns) 0)) [(-1), (-3)] (rg_shut _) (by decide +kernel) rfl g2 (c3.mo (by omega) (by omega)) (r.now c3 q3)
  · refine ⟨fun z => absurd z (by decide), fun z => absurd z (by decide), fun z => absurd z (by decide), fun z => absurd z (by decide), fun z => absurd z (by decide), fun z => absurd z (by decide), fun z => absurd z (by decide), fun _ => ?_, fun z => absurd z (by decide), fun z => absurd z (by decide), fun z => absurd rfl z.2.2.2.2.2.2.2.1⟩
    rw [row 0 (by decide)]
    refine ⟨s.o, st.1.o, c_openBlock st i.1.1 (fun g2 c2 q3 => ?_)⟩
    have c3 : chg 65 108 g g2 := by first | exact c2 | exact c2.chg
    exact fin (oOpen (bA X) (cn (7, ns) 0)) [(-1), (-3)] (rg_open _) (by decide +kernel) rfl g2 (c3.mo (by omega) (by omega)) (r.now c3 q3)
  · refine ⟨fun z => absurd z (by decide), fun z => absurd z (by decide), fun z => absurd z (by decide), fun z => absurd z (by decide), fun z => absurd z (by decide), fun z => absurd z (by decide), fun z => absurd z (by decide), fun z => absurd z (by decide), fun _ => ?_, fun z => absurd z (by decide), fun z => absurd rfl z.2.2.2.2.2.2.2.2.1⟩
    rw [row 0 (by decide)]
    refine ⟨s.o, st.1.o, c_movePoint st i.1.1 bn (fun g2 c2 q3 => ?_)⟩
    have c3 : chg 65 108 g g2 := by first | exact c2 | exact c2.chg
    exact fin (oThrow (bA X) (cn (8, ns) 0)) [(-1), (-3)] (rg_throw _) (by decide +kernel) rfl g2 (c3.mo (by omega) (by omega)) (r.now c3 q3)
  · refine ⟨fun z => absurd z (by decide), fun z => absurd z (by decide), fun z => absurd z (by decide), fun z => absurd z (by decide), fun z => absurd z (by decide), fun z => absurd z (by decide), fun z => absurd z (by decide), fun z => absurd z (by decide), fun z => absurd z (by decide), fun _ => ?_, fun z => absurd rfl z.2.2.2.2.2.2.2.2.2⟩
    refine ⟨s.o, st.1.o, c_letPass st (fun k hk => (i.1.2.mins gk hw hk).2.2) (fun g2 c2 q3 => ?_)⟩
    have c3 : chg 65 108 g g2 := by first | exact c2 | exact c2.chg
    exact fin (oPass (bA X) (nI 1)) [(-2)] (rg_pass _ gk i.1.2 hw) (by decide +kernel) rfl g2 (c3.mo (by omega) (by omega)) (r.now c3 q3)
  · refine ⟨fun z => absurd z (by decide), fun z => absurd z (by decide), fun z => absurd z (by decide), fun z => absurd z (by decide), fun z => absurd z (by decide), fun z => absurd z (by decide), fun z => absurd z (by decide), fun z => absurd z (by decide), fun z => absurd z (by decide), fun z => absurd z (by decide), fun _ => ?_⟩
    rw [row 0 (by decide)]
    refine ⟨s.o, st.1.o, c_letPass st (fun k hk => (i.1.2.mins gk hw hk).2.2) (fun g2 c2 q3 => ?_)⟩
    have c3 : chg 65 108 g g2 := by first | exact c2 | exact c2.chg
    exact fin (oPass (bA X) (cn (10, ns) 0)) [(-2)] (rg_pass _ gk i.1.2 hw) (by decide +kernel) rfl g2 (c3.mo (by omega) (by omega)) (r.now c3 q3)
/-- the box after a program -/
noncomputable def runX (X : BG) : BG := match prs (bF X) 13 0 with
  | (e, none) => (bA X, bH X, bS X, bO X, [], bY X, bB X, some e, bX X)
  | (_, some cs) => match rnC (bA X, bH X, bS X, bO X, [], X.2.2.2.2.2) cs 0 with
    | (Y, none) => (bA Y, (bA X :: bH X).take 8, Y.2.2)
    | (Y, some j) => (bA X, bH X, bS X, bO X, [], bY Y, bB Y, bE X, some j)
noncomputable def runQ (X : BG) : QA := match prs (bF X) 13 0 with
  | (_, none) => (1, nI 0)
  | (_, some cs) => match rnC (bA X, bH X, bS X, bO X, [], X.2.2.2.2.2) cs 0 with
    | (_, none) => (0, nI cs.length)
    | (_, some _) => (2, nI 0)
theorem run_l {A0 : AG} {n : Nat} {cs : List CM} (hl : cs.length = n) (hn : n ≤ 12) {H : List AG} {K : Int32 → AH → Prop} {T : String → AH → Prop} : ∀ (l : List CM) (j w : Nat) (X : BG) (g : AH), cs.drop j = l → j + l.length = n → w + l.length ≤ 6200 → RBp g p X → rpS g (196 + 43 * p) A0 → stF g → PX w X → mI g 587 4 = nI n → cmS g 0 cs → bH X = H →
    (∀ Y, rnC X l j = (Y, none) → ∀ g', fcl g g' → RBc g' (bA Y, (A0 :: H).take 8, Y.2.2) → K (nI n) g') → (∀ Y i, rnC X l j = (Y, some i) → ∀ g', fcl g g' → RBc g' (A0, H, bS Y, bO Y, bF Y, bY Y, bB Y, bE Y, some i) → T "java/lang/UnsupportedOperationException" g') → wX9_run_L54 K T (l.length + 1) 64 (nI j) g := by
  intro l
  induction l with
  | nil =>
    intro j w X g hd hj hw r s0 t i h4 hcs hH k kT
    simp only [List.length_nil] at hj
    have s := r.1
    rw [wX9_run_L54]; dsimp only
    rw [s.f5, h4]
    refine ⟨s.o, s.po, fun _ => ?_, fun z => absurd (nI_le (by omega) (by omega)) z⟩
    refine c_settle (p := p) (X := (A0, X.2)) (r := (0, nI n, bA X)) (cs := []) r s0 ⟨Nat.le_refl _, fun _ => ⟨n, by omega, rfl⟩⟩ (fun j hj => absurd hj (Nat.not_lt_zero j)) (fun _ g' c r' => ?_) (fun j z => by cases z)
    refine k X rfl g' (c.chg.fcl (by omega) (by omega)) ?_
    have e : cgd (0, nI n, bA X) ((A0, X.2) : BG) = (bA X, (A0 :: bH X).take 8, X.2.2) := rfl
    rw [e, hH] at r'
    exact r'
  | cons c l ih =>
    intro j w X g hd hj hw r s0 t i h4 hcs hH k kT
    simp only [List.length_cons] at hj hw
    have s := r.1
    have gk : GK (bA X) := r.2.2.1.gk i.1.1
    have hjc : cs[j]? = some c := by
      have : (cs.drop j)[0]? = some c := by rw [hd]; rfl
      rw [List.getElem?_drop, Nat.add_zero] at this
      exact this
    rw [wX9_run_L54]; dsimp only
    rw [s.f5, h4]
    refine ⟨s.o, s.po, fun z => absurd z (nI_ge (by omega) (by omega)), fun _ => c_execute r t i (by omega) h4 hn hcs hl hjc (fun v g2 c2 r2 n1 n2 => ?_)⟩
    have hp := r.2.2.2.1.1
    have f2 : fcl g g2 := c2.fcl (by omega) (by omega)
    obtain ⟨e1, e2, e3, e4, e5, e6⟩ := exX_s X c
    have s2 : rpS g2 (196 + 43 * p) A0 := s0.sm (fun q h1 h2 => c2.sa (by omega))
    by_cases e : (exR (bA X) c).1 = 0
    · refine ⟨fun _ => ?_, fun z => absurd (n1 e) z⟩
      rw [nI_add]
      have er : rnC X (c :: l) j = rnC (exX X c) l (j + 1) := by rw [rnC, if_pos e]
      have hcs2 : cmS g2 0 cs := fun y kk ns hy => by
        obtain ⟨a1, a2, a3, a4⟩ := hcs y kk ns hy
        have hy2 := (List.getElem?_eq_some_iff.mp hy).1
        exact ⟨by rw [(c2.sa (a := 589) (by omega)).2.2.1]; exact a1, a2, a3, fun q v hv => by rw [(c2.sa (a := 591 + (0 + y)) (by omega)).2.1]; exact a4 q v hv⟩
      refine ih (j + 1) (w + 1) (exX X c) g2 (by rw [← List.drop_drop, hd]; rfl) (by omega) (by omega) r2 s2 (t.fcl f2) (i.ex gk (by omega) c) (by rw [(c2.sa (a := 587) (by omega)).2.1]; exact h4) hcs2 (e1.trans hH) (fun Y hY g' f' r' => k Y (er.trans hY) g' (f2.tr f') r') (fun Y y hY g' f' r' => kT Y y (er.trans hY) g' (f2.tr f') r')
    · refine ⟨fun z => absurd z (n2 e), fun _ => ⟨r2.1.o, ?_⟩⟩
      rw [r2.1.f3, r2.1.f0]
      refine ⟨r2.1.ho, c_putBack r2 s2 (fun g3 c3 r3 _ => ⟨r3.1.o, fun g4 e4' => ?_⟩)⟩
      have er : rnC X (c :: l) j = (exX X c, some j) := by rw [rnC, if_neg e]
      have c4 : chi 64 65 g3 g4 := by rw [e4']; exact chi.uI (by omega) (by omega)
      have f4 : fcl g g4 := (f2.tr (c3.fcl (by omega) (by omega))).tr (c4.chg.fcl (by omega) (by omega))
      refine kT (exX X c) j er g4 f4 ⟨p, ?_⟩
      have hs := r3.sR
      have c' := c4.chg
      obtain ⟨r1, r2', r3', r4, r5, r6, r7, r8⟩ := r3
      have hS0 : sB0 g4 := by
        unfold sB0
        rw [c4.2.1, c4.2.2.1]
        exact r1
      have hsv : svO g4 (bS (exX X c)) := by
        have r5' : svO g3 (bS (exX X c)) := r5
        unfold svO at r5' ⊢
        cases hq : bS (exX X c) with
        | none => rw [hq] at r5'; simp only at r5' ⊢; rw [e4', mI_uI, if_neg (by omega)]; exact r5'
        | some B => rw [hq] at r5'; simp only at r5' ⊢; rw [e4', mI_uI, if_neg (by omega), ← e4']; exact ⟨r5'.1, r5'.2.sm (fun q h1 h2 => c'.sa (by omega))⟩
      refine ⟨hS0, r2'.sm (fun q hq => c'.sa (by omega)), r3'.sm (fun q h1 h2 => c'.sa (by omega)), ?_, hsv, r6.sm (fun q hq => c'.sa (by omega)), r7.sm (Nat.le_of_eq c4.1.symm) (fun q hq => c'.sa (by omega)), ?_, ?_, ?_, ?_⟩
      · have : hsO g3 p H := by
          have := r4
          rw [show bH (A0, (exX X c).2) = H from e1.trans hH] at this
          exact this
        exact this.sm (fun q hq => c'.sa (by omega))
      · rw [e4', mI_uI, if_neg (by omega)]; exact r8.1
      · rw [e4', mI_uI, if_neg (by omega)]; exact r8.2.1
      · rw [e4', mI_uI, if_neg (by omega)]; exact r8.2.2.1
      · rw [e4', mI_uI, if_pos ⟨rfl, rfl⟩]; rfl
theorem rn_fix : ∀ (l : List CM) (X : BG) (j : Nat), bS (rnC X l j).1 = bS X ∧ bO (rnC X l j).1 = bO X ∧ bF (rnC X l j).1 = bF X ∧ bE (rnC X l j).1 = bE X ∧ bX (rnC X l j).1 = bX X := by
  intro l
  induction l with
  | nil => intro X j; exact ⟨rfl, rfl, rfl, rfl, rfl⟩
  | cons c l ih =>
    intro X j
    obtain ⟨e1, e2, e3, e4, e5, e6⟩ := exX_s X c
    rw [rnC]
    by_cases e : (exR (bA X) c).1 = 0
    · rw [if_pos e]
      obtain ⟨a1, a2, a3, a4, a5⟩ := ih (exX X c) (j + 1)
      exact ⟨a1.trans e2, a2.trans e3, a3.trans e4, a4.trans e5, a5.trans e6⟩
    · rw [if_neg e]
      exact ⟨e2, e3, e4, e5, e6⟩
theorem c9_run (r : RBc h X) (t : stF h) (i : PX w X) (hw : w + 12 ≤ 6200) {K : Int32 → AH → Prop} {T : String → AH → Prop} (k : (runQ X).1 = 0 → ∀ g, fcl h g → RBc g (runX X) → K (runQ X).2 g) (kT : ∀ j, (runQ X).1 = j + 1 → ∀ g, fcl h g → RBc g (runX X) → T (([xA, "java/lang/UnsupportedOperationException"] : List String).getD j "") g) : wX9_run 64 h K T := by
  obtain ⟨p, r⟩ := r
  have s := r.1
  unfold wX9_run
  rw [s.f5]
  refine ⟨s.o, s.po, c_parse t r (fun g1 q1 => ?_)⟩
  have r1 := r.prg q1
  have clear : ∀ g2, g2 = uI g1 587 1 (nI 0) → fcl h g2 ∧ RBp g2 p (bA X, bH X, bS X, bO X, [], X.2.2.2.2.2) ∧ stF g2 := fun g2 e2 => by
    have c : chi 587 588 g1 g2 := by rw [e2]; exact chi.uI (by omega) (by omega)
    have r2 := r1.buf (c.mo (by omega) (by omega)) (b := []) ⟨by rw [e2, mI_uI, if_pos ⟨rfl, rfl⟩]; rfl, Nat.zero_le _, fun i c hc => by simp at hc⟩
    have f2 : fcl h g2 := q1.fcl.tr (c.chg.fcl (by omega) (by omega))
    exact ⟨f2, r2, t.fcl f2⟩
  cases hp : prs (bF X) 13 0 with
  | mk e o =>
    cases o with
    | none =>
      simp only
      intro h5
      have eQ : runQ X = (1, nI 0) := by unfold runQ; rw [hp]
      have eX : runX X = (bA X, bH X, bS X, bO X, [], bY X, bB X, some e, bX X) := by unfold runX; rw [hp]
      refine ⟨r1.1.o, ?_⟩
      rw [r1.1.f5]
      refine ⟨r1.1.po, ?_⟩
      unfold wX5_clear
      refine ⟨r1.1.po, fun g2 e2 => ⟨fun z => absurd trivial z, fun _ => ?_⟩⟩
      obtain ⟨f2, r2, t2⟩ := clear g2 e2
      rw [r2.1.f5]
      refine ⟨r2.1.o, r2.1.po, fun g3 e3 => ?_⟩
      have h52 : mI g2 587 5 = nI e := by rw [e2, mI_uI, if_neg (by omega)]; exact h5
      rw [h52] at e3
      have c4 : chi 64 65 g2 g3 := by rw [e3]; exact chi.uI (by omega) (by omega)
      refine kT 0 (by rw [eQ]) g3 (f2.tr (c4.chg.fcl (by omega) (by omega))) ?_
      rw [eX]
      refine ⟨p, ?_⟩
      have hs := r2.sR
      have c' := c4.chg
      obtain ⟨u1, u2, u3, u4, u5, u6, u7, u8⟩ := r2
      refine ⟨?_, u2.sm (fun q hq => c'.sa (by omega)), u3.sm (fun q h1 h2 => c'.sa (by omega)), u4.sm (fun q hq => c'.sa (by omega)), ?_, u6.sm (fun q hq => c'.sa (by omega)), u7.sm (Nat.le_of_eq c4.1.symm) (fun q hq => c'.sa (by omega)), ?_, ?_, ?_, ?_⟩
      · unfold sB0
        rw [c4.2.1, c4.2.2.1]
        exact u1
      · have u5' : svO g2 (bS X) := u5
        show svO g3 (bS X)
        unfold svO at u5' ⊢
        cases hq : bS X with
        | none => rw [hq] at u5'; simp only at u5' ⊢; rw [e3, mI_uI, if_neg (by omega)]; exact u5'
        | some B => rw [hq] at u5'; simp only at u5' ⊢; rw [e3, mI_uI, if_neg (by omega), ← e3]; exact ⟨u5'.1, u5'.2.sm (fun q h1 h2 => c'.sa (by omega))⟩
      · rw [e3, mI_uI, if_neg (by omega)]; exact u8.1
      · rw [e3, mI_uI, if_neg (by omega)]; exact u8.2.1
      · rw [e3, mI_uI, if_pos ⟨rfl, rfl⟩]; rfl
      · rw [e3, mI_uI, if_neg (by omega)]; exact u8.2.2.2
    | some cs =>
      simp only
      intro h4 hn hcs
      refine ⟨r1.1.o, ?_⟩
      rw [r1.1.f5]
      refine ⟨r1.1.po, ?_⟩
      unfold wX5_clear
      refine ⟨r1.1.po, fun g2 e2 => ⟨fun _ => ?_, fun z => absurd z (by rw [n1_ne]; exact id)⟩⟩
      obtain ⟨f2, r2, t2⟩ := clear g2 e2
      rw [r2.1.f3, r2.1.f0]
      have hp9 := r2.2.2.2.1.1
      refine ⟨r2.1.o, r2.1.ho, c_keep r2 (fun g3 c3 r3 s3 => ⟨cs.length + 1, ?_⟩)⟩
      have f3 : fcl h g3 := f2.tr (c3.fcl (by omega) (by omega))
      have o2 : ∀ a, a ≠ 587 → mI g2 a = mI g1 a := fun a ha => by rw [e2, mI_o ha]
      have hcs3 : cmS g3 0 cs := fun y kk ns hy => by
        obtain ⟨a1, a2, a3, a4⟩ := hcs y kk ns hy
        have hy2 := (List.getElem?_eq_some_iff.mp hy).1
        exact ⟨by rw [(c3.sa (a := 589) (by omega)).2.2.1, e2, mR_uI]; exact a1, a2, a3, fun q v hv => by rw [(c3.sa (a := 591 + (0 + y)) (by omega)).2.1, o2 _ (by omega)]; exact a4 q v hv⟩
      have h43 : mI g3 587 4 = nI cs.length := by rw [(c3.sa (a := 587) (by omega)).2.1, e2, mI_uI, if_neg (by omega)]; exact h4
      refine run_l (A0 := bA X) (H := bH X) (cs := cs) rfl hn cs 0 w (bA X, bH X, bS X, bO X, [], X.2.2.2.2.2) g3 rfl (Nat.zero_add _) (by omega) r3 s3 (t.fcl f3) i h43 hcs3 rfl (fun Y hY g' f' r' => ?_) (fun Y y hY g' f' r' => ?_)
      · have eQ : runQ X = (0, nI cs.length) := by unfold runQ; rw [hp]; simp only; rw [hY]
        have eX : runX X = (bA Y, (bA X :: bH X).take 8, Y.2.2) := by unfold runX; rw [hp]; simp only; rw [hY]
        have := k (by rw [eQ]) g' (f3.tr f') (by rw [eX]; exact r')
        rw [eQ] at this
        exact this
      · have eQ : runQ X = (2, nI 0) := by unfold runQ; rw [hp]; simp only; rw [hY]
        have eX : runX X = (bA X, bH X, bS X, bO X, [], bY Y, bB Y, bE X, some y) := by unfold runX; rw [hp]; simp only; rw [hY]
        obtain ⟨v1, v2, v3, v4, v5⟩ := rn_fix cs (bA X, bH X, bS X, bO X, [], X.2.2.2.2.2) 0
        rw [hY] at v1 v2 v3 v4
        refine kT 1 (by rw [eQ]) g' (f3.tr f') ?_
        rw [eX]
        have w1 : bS Y = bS X := v1
        have w2 : bO Y = bO X := v2
        have w3 : bF Y = [] := v3
        have w4 : bE Y = bE X := v4
        rw [w1, w2, w3, w4] at r'
        exact r'
end RU
