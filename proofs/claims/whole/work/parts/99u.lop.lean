/-! THE LAW'S LOOP -/
section LAL
variable {h g : AH} {X X' : BG} {w L : Nat} {S : Nat → Int32} {K : Int32 → AH → Prop}
theorem small_4 : ∀ L, L < 4 → (nI L - nI 4).toInt = (L : Int) - 4 := by decide
theorem ends_i {L i : Nat} (hL : L ≤ 2048) (hi : i ≤ 4096) : (nI L - nI 4 < nI i) = (L < i + 4) := by
  apply propext
  rw [Int32.lt_iff_toInt_lt, nI_toInt (by omega : i < 2 ^ 31)]
  by_cases z : L < 4
  · rw [small_4 L z]
    omega
  · rw [nI_sub (by omega), nI_toInt (by omega)]
    omega
theorem law_loop (hL : L ≤ 2048) (k1 : ∀ g, K (nI 1) g) : ∀ (n k : Nat) (X : BG) (h : AH), 4 * k ≤ 2052 → L ≤ 4 * (k + n) → LI (12 * k) X S L h → wL_law_L28 K (n + 1) 63 64 606 619 620 (nI (4 * k)) h := by
  intro n
  induction n with
  | zero =>
    intro k X h hk hn I
    have e : ln h 63 = L := congrArg Prod.snd I.2.2.2.2.1.2.2.2.1
    rw [wL_law_L28]; dsimp only
    rw [e, ends_i hL (by omega)]
    exact ⟨I.sA, fun _ => k1 h, fun z => absurd (by omega) z⟩
  | succ n ihn =>
    intro k X h hk hn I
    have e : ln h 63 = L := congrArg Prod.snd I.2.2.2.2.1.2.2.2.1
    rw [wL_law_L28]; dsimp only
    rw [e, ends_i hL (by omega)]
    refine ⟨I.sA, fun _ => k1 h, fun z => ⟨vp_in_nI (by omega) (by omega), ?_⟩⟩
    have hi : 4 * k + 3 < L := by omega
    have hw : 12 * k + 12 ≤ 6200 := by omega
    have ih : ∀ X' g, LI (12 * k + 12) X' S L g → wL_law_L28 K (n + 1) 63 64 606 619 620 (nI (4 * k + 4)) g := fun X' g I' => ihn (k + 1) X' g (by omega) (by omega) I'
    refine ⟨fun _ => LA_addBlock I hw hi hL ih, fun _ => LA_addPoint I hw hi hL ih, fun _ => LA_addLink I hw hi hL ih, fun _ => LA_shut I hw hi hL ih, fun _ => LA_open I hw hi hL ih, fun _ => LA_throwPoint I hw hi hL ih, fun _ => LA_addTrain I hw hi hL ih, fun _ => LA_setRoute I hw hi hL ih, fun _ => LA_releaseRoute I hw hi hL ih, fun _ => LA_pass I hw hi hL ih, fun _ => LA_blocks I hw hi hL ih, fun _ => LA_blockLength I hw hi hL ih, fun _ => LA_blockState I hw hi hL ih, fun _ => LA_trainAt I hw hi hL ih, fun _ => LA_liesLeft I hw hi hL ih, fun _ => LA_lockedBy I hw hi hL ih, fun _ => LA_routeLength I hw hi hL ih, fun _ => LA_routeLengthByPaths I hw hi hL ih, fun _ => LA_routeBlock I hw hi hL ih, fun _ => LA_paths I hw hi hL ih, fun _ => LA_trains I hw hi hL ih, fun _ => LA_isPresent I hw hi hL ih, fun _ => LA_blockOf I hw hi hL ih, fun _ => LA_destination I hw hi hL ih, fun _ => LA_hasRoute I hw hi hL ih, fun _ => LA_isClear I hw hi hL ih, fun _ => LA_minutesUntilNext I hw hi hL ih, fun _ => LA_minutesUntilArrival I hw hi hL ih, fun _ => LA_minutesUntilArrivalByPassing I hw hi hL ih, fun _ => LA_delay I hw hi hL ih, fun _ => LA_queued I hw hi hL ih, fun _ => LA_waitsFor I hw hi hL ih, fun _ => LA_deadlocked I hw hi hL ih, fun _ => LA_deadlockedByPairs I hw hi hL ih, fun _ => LA_conflict I hw hi hL ih, fun _ => LA_mostWithoutConflict I hw hi hL ih, fun _ => LA_mostWithoutConflictBySets I hw hi hL ih, fun _ => LA_refusalReason I hw hi hL ih, fun _ => LA_refusalBlock I hw hi hL ih, fun _ => LA_time I hw hi hL ih, fun _ => LA_arrived I hw hi hL ih, fun _ => LA_totalDelay I hw hi hL ih, fun _ => LA_meanDelay I hw hi hL ih, fun _ => LA_usedShare I hw hi hL ih, fun _ => LA_isConsistent I hw hi hL ih, fun _ => LA_writeBlocks I hw hi hL ih, fun _ => LA_writeTrain I hw hi hL ih, fun _ => LA_charAt I hw hi hL ih, fun _ => LA_type I hw hi hL ih, fun _ => LA_run I hw hi hL ih, fun _ => LA_errorPosition I hw hi hL ih, fun _ => LA_failedCommand I hw hi hL ih, fun _ => LA_undo I hw hi hL ih, fun _ => LA_save I hw hi hL ih, fun _ => LA_restore I hw hi hL ih, fun _ => ?_⟩
    rw [nI_add]
    exact ih X h ⟨I.1, I.2.1, I.2.2.1.up (by omega), I.2.2.2⟩
end LAL
