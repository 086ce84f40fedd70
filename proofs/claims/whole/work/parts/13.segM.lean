/-! segments: what a method does from one cut point to the next (written by wip/whole/seg.py) -/
set_option maxRecDepth 4000 in
theorem sg_X8_isIn_0 {d : Nat} {x0 x2 x4 : Int} {h : xH} {Q : Int → xH → Prop}
    (hR : (inL x0 ∧ inL x2) ∧ (x0 < x2 → Q 0 h) ∧ (x2 ≤ x0 → (inL x0 ∧ inL x4) ∧ (x4 < x0 → Q 0 h) ∧ (x0 ≤ x4 → Q 1 h))) :
    gI wdM d mX8_isIn 0 [some (.inr (.inl x0)), none, some (.inr (.inl x2)), none, some (.inr (.inl x4)), none] h Q := by
  unfold gI
  refine x_lload_n (pc := 0) (show decode mX8_isIn.2.1 0 = .ok (.lload_n 0, 1) by decide +kernel) rfl rfl ?_
  refine x_lload_n (pc := 1) (show decode mX8_isIn.2.1 1 = .ok (.lload_n 2, 1) by decide +kernel) rfl rfl ?_
  obtain ⟨hg, hR⟩ := hR
  refine x_lcmp (pc := 2) (show decode mX8_isIn.2.1 2 = .ok (.lcmp, 1) by decide +kernel) ⟨hg.1, hg.2⟩ ?_
  refine x_if_lt (pc := 3) (tgt := 17) (show decode mX8_isIn.2.1 3 = .ok (.ifCond .lt 14, 3) by decide +kernel) (by decide) (xcmp_in _ _) (fun hc => ?_) (fun hc => ?_)
  · replace hR := hR.1 (xcmp_lt.mp hc)
    refine x_iconst (pc := 17) (n := 0) (show decode mX8_isIn.2.1 17 = .ok (.iconst 0, 1) by decide +kernel) ?_
    exact x_zret (pc := 18) rfl (show decode mX8_isIn.2.1 18 = .ok (.ireturn, 1) by decide +kernel) (by decide) ⟨_, rfl, hR⟩
  · replace hR := hR.2 (xcmp_ge.mp hc)
    refine x_lload_n (pc := 6) (show decode mX8_isIn.2.1 6 = .ok (.lload_n 0, 1) by decide +kernel) rfl rfl ?_
    refine x_lload (pc := 7) (show decode mX8_isIn.2.1 7 = .ok (.lload 4, 2) by decide +kernel) rfl ?_
    obtain ⟨hg, hR⟩ := hR
    refine x_lcmp (pc := 9) (show decode mX8_isIn.2.1 9 = .ok (.lcmp, 1) by decide +kernel) ⟨hg.1, hg.2⟩ ?_
    refine x_if_gt (pc := 10) (tgt := 17) (show decode mX8_isIn.2.1 10 = .ok (.ifCond .gt 7, 3) by decide +kernel) (by decide) (xcmp_in _ _) (fun hc => ?_) (fun hc => ?_)
    · replace hR := hR.1 (xcmp_gt.mp hc)
      refine x_iconst (pc := 17) (n := 0) (show decode mX8_isIn.2.1 17 = .ok (.iconst 0, 1) by decide +kernel) ?_
      exact x_zret (pc := 18) rfl (show decode mX8_isIn.2.1 18 = .ok (.ireturn, 1) by decide +kernel) (by decide) ⟨_, rfl, hR⟩
    · replace hR := hR.2 (xcmp_le.mp hc)
      refine x_iconst (pc := 13) (n := 1) (show decode mX8_isIn.2.1 13 = .ok (.iconst 1, 1) by decide +kernel) ?_
      refine x_goto (pc := 14) (tgt := 18) (show decode mX8_isIn.2.1 14 = .ok (.goto 4, 3) by decide +kernel) (by decide) ?_
      exact x_zret (pc := 18) rfl (show decode mX8_isIn.2.1 18 = .ok (.ireturn, 1) by decide +kernel) (by decide) ⟨_, rfl, hR⟩
set_option maxRecDepth 4000 in
theorem sg_X8_starts_0 {d : Nat} {x1 : Int} {h : xH} {Q : xH → Prop}
    (hR : gV wdM d mX8_starts 2 [some (.inr (.inr 0)), some (.inl x1), some (.inl 0)] h Q) :
    gV wdM d mX8_starts 0 [some (.inr (.inr 0)), some (.inl x1), none] h Q := by
  unfold gV
  refine x_iconst (pc := 0) (n := 0) (show decode mX8_starts.2.1 0 = .ok (.iconst 0, 1) by decide +kernel) ?_
  refine x_istore_n (pc := 1) (ls' := [some (.inr (.inr 0)), some (.inl x1), some (.inl 0)]) (show decode mX8_starts.2.1 1 = .ok (.istore_n 2, 1) by decide +kernel) rfl (by decide) rfl ?_
  exact hR
set_option maxRecDepth 4000 in
theorem sg_X8_starts_2 {d : Nat} {x1 x2 : Int} {h : xH} {Q : xH → Prop}
    (hR : (inI x2) ∧ (1705 ≤ x2 → gV wdM d mX8_starts 31 [some (.inr (.inr 0)), none, some (.inl 0)] (xu h 1 0 x1) Q) ∧ (x2 < 1705 → (0 ≤ x2 ∧ x2 < 1705) ∧ gV wdM d mX8_starts 2 [some (.inr (.inr 0)), some (.inl x1), some (.inl (x2 + 1))] (xu h 1 x2 0) Q)) :
    gV wdM d mX8_starts 2 [some (.inr (.inr 0)), some (.inl x1), some (.inl x2)] h Q := by
  unfold gV
  refine x_iload_n (pc := 2) (show decode mX8_starts.2.1 2 = .ok (.iload_n 2, 1) by decide +kernel) rfl rfl ?_
  refine x_sipush (pc := 3) (n := 1705) (show decode mX8_starts.2.1 3 = .ok (.sipush 1705, 3) by decide +kernel) rfl ?_
  obtain ⟨hg, hR⟩ := hR
  refine x_icmp_ge (pc := 6) (tgt := 22) (show decode mX8_starts.2.1 6 = .ok (.if_icmp .ge 16, 3) by decide +kernel) (by decide) ⟨hg, (by unfold inI; decide)⟩ (fun hc => ?_) (fun hc => ?_)
  · replace hR := hR.1 hc
    refine x_aload_n (pc := 22) (show decode mX8_starts.2.1 22 = .ok (.aload_n 0, 1) by decide +kernel) rfl rfl ?_
    refine x_getR (pc := 23) f8_11 rfl rfl (show decode mX8_starts.2.1 23 = .ok (.getfield 11, 3) by decide +kernel) ?_
    refine x_iconst (pc := 26) (n := 0) (show decode mX8_starts.2.1 26 = .ok (.iconst 0, 1) by decide +kernel) ?_
    refine x_iload_n (pc := 27) (show decode mX8_starts.2.1 27 = .ok (.iload_n 1, 1) by decide +kernel) rfl rfl ?_
    refine x_iast (pc := 28) rfl (by decide) (by decide) (show decode mX8_starts.2.1 28 = .ok (.iastore, 1) by decide +kernel) ?_
    refine x_iconst (pc := 29) (n := 0) (show decode mX8_starts.2.1 29 = .ok (.iconst 0, 1) by decide +kernel) ?_
    refine x_istore_n (pc := 30) (ls' := [some (.inr (.inr 0)), some (.inl x1), some (.inl 0)]) (show decode mX8_starts.2.1 30 = .ok (.istore_n 2, 1) by decide +kernel) rfl (by decide) rfl ?_
    exact x_weak (xle_get (by repeat' constructor)) hR
  · replace hR := hR.2 hc
    refine x_aload_n (pc := 9) (show decode mX8_starts.2.1 9 = .ok (.aload_n 0, 1) by decide +kernel) rfl rfl ?_
    refine x_getR (pc := 10) f8_11 rfl rfl (show decode mX8_starts.2.1 10 = .ok (.getfield 11, 3) by decide +kernel) ?_
    refine x_iload_n (pc := 13) (show decode mX8_starts.2.1 13 = .ok (.iload_n 2, 1) by decide +kernel) rfl rfl ?_
    refine x_iconst (pc := 14) (n := 0) (show decode mX8_starts.2.1 14 = .ok (.iconst 0, 1) by decide +kernel) ?_
    obtain ⟨hg, hR⟩ := hR
    refine x_iast (pc := 15) rfl (by decide) hg (show decode mX8_starts.2.1 15 = .ok (.iastore, 1) by decide +kernel) ?_
    refine x_iinc (pc := 16) (ls' := [some (.inr (.inr 0)), some (.inl x1), some (.inl (x2 + 1))]) (show decode mX8_starts.2.1 16 = .ok (.iinc 2 1, 3) by decide +kernel) (by decide) rfl rfl ?_
    refine x_goto (pc := 19) (tgt := 2) (show decode mX8_starts.2.1 19 = .ok (.goto (-17), 3) by decide +kernel) (by decide) ?_
    exact hR
set_option maxRecDepth 4000 in
theorem sg_X8_starts_31 {d : Nat} {x2 : Int} {h : xH} {Q : xH → Prop}
    (hR : (inI x2) ∧ (12 ≤ x2 → gV wdM d mX8_starts 55 [some (.inr (.inr 0)), none, some (.inl 0)] h Q) ∧ (x2 < 12 → (0 ≤ (125 + x2) ∧ (125 + x2) < 1705) ∧ gV wdM d mX8_starts 31 [some (.inr (.inr 0)), none, some (.inl (x2 + 1))] (xu h 1 (125 + x2) 1) Q)) :
    gV wdM d mX8_starts 31 [some (.inr (.inr 0)), none, some (.inl x2)] h Q := by
  unfold gV
  refine x_iload_n (pc := 31) (show decode mX8_starts.2.1 31 = .ok (.iload_n 2, 1) by decide +kernel) rfl rfl ?_
  refine x_bipush (pc := 32) (n := 12) (show decode mX8_starts.2.1 32 = .ok (.bipush 12, 2) by decide +kernel) rfl ?_
  obtain ⟨hg, hR⟩ := hR
  refine x_icmp_ge (pc := 34) (tgt := 53) (show decode mX8_starts.2.1 34 = .ok (.if_icmp .ge 19, 3) by decide +kernel) (by decide) ⟨hg, (by unfold inI; decide)⟩ (fun hc => ?_) (fun hc => ?_)
  · replace hR := hR.1 hc
    refine x_iconst (pc := 53) (n := 0) (show decode mX8_starts.2.1 53 = .ok (.iconst 0, 1) by decide +kernel) ?_
    refine x_istore_n (pc := 54) (ls' := [some (.inr (.inr 0)), none, some (.inl 0)]) (show decode mX8_starts.2.1 54 = .ok (.istore_n 2, 1) by decide +kernel) rfl (by decide) rfl ?_
    exact hR
  · replace hR := hR.2 hc
    refine x_aload_n (pc := 37) (show decode mX8_starts.2.1 37 = .ok (.aload_n 0, 1) by decide +kernel) rfl rfl ?_
    refine x_getR (pc := 38) f8_11 rfl rfl (show decode mX8_starts.2.1 38 = .ok (.getfield 11, 3) by decide +kernel) ?_
    refine x_bipush (pc := 41) (n := 125) (show decode mX8_starts.2.1 41 = .ok (.bipush 125, 2) by decide +kernel) rfl ?_
    refine x_iload_n (pc := 43) (show decode mX8_starts.2.1 43 = .ok (.iload_n 2, 1) by decide +kernel) rfl rfl ?_
    refine x_iadd (pc := 44) (show decode mX8_starts.2.1 44 = .ok (.iadd, 1) by decide +kernel) ?_
    refine x_iconst (pc := 45) (n := 1) (show decode mX8_starts.2.1 45 = .ok (.iconst 1, 1) by decide +kernel) ?_
    obtain ⟨hg, hR⟩ := hR
    refine x_iast (pc := 46) rfl (by decide) hg (show decode mX8_starts.2.1 46 = .ok (.iastore, 1) by decide +kernel) ?_
    refine x_iinc (pc := 47) (ls' := [some (.inr (.inr 0)), none, some (.inl (x2 + 1))]) (show decode mX8_starts.2.1 47 = .ok (.iinc 2 1, 3) by decide +kernel) (by decide) rfl rfl ?_
    refine x_goto (pc := 50) (tgt := 31) (show decode mX8_starts.2.1 50 = .ok (.goto (-19), 3) by decide +kernel) (by decide) ?_
    exact hR
set_option maxRecDepth 4000 in
theorem sg_X8_starts_55 {d : Nat} {x2 : Int} {h : xH} {Q : xH → Prop}
    (hR : (inI x2) ∧ (24 ≤ x2 → Q h) ∧ (x2 < 24 → (0 ≤ (157 + x2) ∧ (157 + x2) < 1705) ∧ gV wdM d mX8_starts 55 [some (.inr (.inr 0)), none, some (.inl (x2 + 1))] (xu h 1 (157 + x2) x2) Q)) :
    gV wdM d mX8_starts 55 [some (.inr (.inr 0)), none, some (.inl x2)] h Q := by
  unfold gV
  refine x_iload_n (pc := 55) (show decode mX8_starts.2.1 55 = .ok (.iload_n 2, 1) by decide +kernel) rfl rfl ?_
  refine x_bipush (pc := 56) (n := 24) (show decode mX8_starts.2.1 56 = .ok (.bipush 24, 2) by decide +kernel) rfl ?_
  obtain ⟨hg, hR⟩ := hR
  refine x_icmp_ge (pc := 58) (tgt := 78) (show decode mX8_starts.2.1 58 = .ok (.if_icmp .ge 20, 3) by decide +kernel) (by decide) ⟨hg, (by unfold inI; decide)⟩ (fun hc => ?_) (fun hc => ?_)
  · replace hR := hR.1 hc
    exact x_vret (pc := 78) rfl (show decode mX8_starts.2.1 78 = .ok (.return_, 1) by decide +kernel) ⟨rfl, hR⟩
  · replace hR := hR.2 hc
    refine x_aload_n (pc := 61) (show decode mX8_starts.2.1 61 = .ok (.aload_n 0, 1) by decide +kernel) rfl rfl ?_
    refine x_getR (pc := 62) f8_11 rfl rfl (show decode mX8_starts.2.1 62 = .ok (.getfield 11, 3) by decide +kernel) ?_
    refine x_sipush (pc := 65) (n := 157) (show decode mX8_starts.2.1 65 = .ok (.sipush 157, 3) by decide +kernel) rfl ?_
    refine x_iload_n (pc := 68) (show decode mX8_starts.2.1 68 = .ok (.iload_n 2, 1) by decide +kernel) rfl rfl ?_
    refine x_iadd (pc := 69) (show decode mX8_starts.2.1 69 = .ok (.iadd, 1) by decide +kernel) ?_
    refine x_iload_n (pc := 70) (show decode mX8_starts.2.1 70 = .ok (.iload_n 2, 1) by decide +kernel) rfl rfl ?_
    obtain ⟨hg, hR⟩ := hR
    refine x_iast (pc := 71) rfl (by decide) hg (show decode mX8_starts.2.1 71 = .ok (.iastore, 1) by decide +kernel) ?_
    refine x_iinc (pc := 72) (ls' := [some (.inr (.inr 0)), none, some (.inl (x2 + 1))]) (show decode mX8_starts.2.1 72 = .ok (.iinc 2 1, 3) by decide +kernel) (by decide) rfl rfl ?_
    refine x_goto (pc := 75) (tgt := 55) (show decode mX8_starts.2.1 75 = .ok (.goto (-20), 3) by decide +kernel) (by decide) ?_
    exact hR
set_option maxRecDepth 4000 in
theorem sg_X8_isPin_0 {d : Nat} {x1 : Int} {h : xH} {Q : Int → xH → Prop} (hd : 1 ≤ d)
    (hR : inI x1 ∧ inI ((h 1 1) - 1) ∧ cI wdM (d - 1) mX8_isIn [.inr (.inl x1), .inr (.inl 0), .inr (.inl ((h 1 1) - 1))] h (fun r2 h1 => (r2 = 0 ∨ r2 = 1) ∧ Q r2 h1)) :
    gI wdM d mX8_isPin 0 [some (.inr (.inr 0)), some (.inl x1)] h Q := by
  unfold gI
  refine x_iload_n (pc := 0) (show decode mX8_isPin.2.1 0 = .ok (.iload_n 1, 1) by decide +kernel) rfl rfl ?_
  obtain ⟨hg, hR⟩ := hR
  refine x_i2l (pc := 1) (show decode mX8_isPin.2.1 1 = .ok (.i2l, 1) by decide +kernel) hg ?_
  refine x_lconst (pc := 2) (v := 0) (show decode mX8_isPin.2.1 2 = .ok (.lconst 0, 1) by decide +kernel) rfl ?_
  refine x_aload_n (pc := 3) (show decode mX8_isPin.2.1 3 = .ok (.aload_n 0, 1) by decide +kernel) rfl rfl ?_
  refine x_getR (pc := 4) f8_11 rfl rfl (show decode mX8_isPin.2.1 4 = .ok (.getfield 11, 3) by decide +kernel) ?_
  refine x_iconst (pc := 7) (n := 1) (show decode mX8_isPin.2.1 7 = .ok (.iconst 1, 1) by decide +kernel) ?_
  refine x_iald (pc := 8) rfl (by decide) (by decide) (show decode mX8_isPin.2.1 8 = .ok (.iaload, 1) by decide +kernel) ?_
  refine x_iconst (pc := 9) (n := 1) (show decode mX8_isPin.2.1 9 = .ok (.iconst 1, 1) by decide +kernel) ?_
  refine x_isub (pc := 10) (show decode mX8_isPin.2.1 10 = .ok (.isub, 1) by decide +kernel) ?_
  obtain ⟨hg, hR⟩ := hR
  refine x_i2l (pc := 11) (show decode mX8_isPin.2.1 11 = .ok (.i2l, 1) by decide +kernel) hg ?_
  refine x_callS (pc := 12) (As := [.inr (.inl x1), .inr (.inl 0), .inr (.inl ((h 1 1) - 1))]) (rest := []) (lk8_79 rfl) sm_X8_isIn (Nat.le_of_ble_eq_true rfl) (Nat.le_of_ble_eq_true rfl) (show decode mX8_isPin.2.1 12 = .ok (.invokestatic 79, 3) by decide +kernel) hd hR (fun r9 h1 hq => ?_)
  obtain ⟨r2, rfl, hR⟩ := hq
  show xG _ _ _ 15 _ [.inl r2] _ _
  exact x_zret (pc := 15) rfl (show decode mX8_isPin.2.1 15 = .ok (.ireturn, 1) by decide +kernel) hR.1 ⟨_, rfl, hR.2⟩
set_option maxRecDepth 4000 in
theorem sg_X8_isSlot_0 {d : Nat} {x1 : Int} {h : xH} {Q : Int → xH → Prop} (hd : 1 ≤ d)
    (hR : inI x1 ∧ inI ((h 1 0) - 1) ∧ cI wdM (d - 1) mX8_isIn [.inr (.inl x1), .inr (.inl 0), .inr (.inl ((h 1 0) - 1))] h (fun r2 h1 => (r2 = 0 ∨ r2 = 1) ∧ Q r2 h1)) :
    gI wdM d mX8_isSlot 0 [some (.inr (.inr 0)), some (.inl x1)] h Q := by
  unfold gI
  refine x_iload_n (pc := 0) (show decode mX8_isSlot.2.1 0 = .ok (.iload_n 1, 1) by decide +kernel) rfl rfl ?_
  obtain ⟨hg, hR⟩ := hR
  refine x_i2l (pc := 1) (show decode mX8_isSlot.2.1 1 = .ok (.i2l, 1) by decide +kernel) hg ?_
  refine x_lconst (pc := 2) (v := 0) (show decode mX8_isSlot.2.1 2 = .ok (.lconst 0, 1) by decide +kernel) rfl ?_
  refine x_aload_n (pc := 3) (show decode mX8_isSlot.2.1 3 = .ok (.aload_n 0, 1) by decide +kernel) rfl rfl ?_
  refine x_getR (pc := 4) f8_11 rfl rfl (show decode mX8_isSlot.2.1 4 = .ok (.getfield 11, 3) by decide +kernel) ?_
  refine x_iconst (pc := 7) (n := 0) (show decode mX8_isSlot.2.1 7 = .ok (.iconst 0, 1) by decide +kernel) ?_
  refine x_iald (pc := 8) rfl (by decide) (by decide) (show decode mX8_isSlot.2.1 8 = .ok (.iaload, 1) by decide +kernel) ?_
  refine x_iconst (pc := 9) (n := 1) (show decode mX8_isSlot.2.1 9 = .ok (.iconst 1, 1) by decide +kernel) ?_
  refine x_isub (pc := 10) (show decode mX8_isSlot.2.1 10 = .ok (.isub, 1) by decide +kernel) ?_
  obtain ⟨hg, hR⟩ := hR
  refine x_i2l (pc := 11) (show decode mX8_isSlot.2.1 11 = .ok (.i2l, 1) by decide +kernel) hg ?_
  refine x_callS (pc := 12) (As := [.inr (.inl x1), .inr (.inl 0), .inr (.inl ((h 1 0) - 1))]) (rest := []) (lk8_79 rfl) sm_X8_isIn (Nat.le_of_ble_eq_true rfl) (Nat.le_of_ble_eq_true rfl) (show decode mX8_isSlot.2.1 12 = .ok (.invokestatic 79, 3) by decide +kernel) hd hR (fun r9 h1 hq => ?_)
  obtain ⟨r2, rfl, hR⟩ := hq
  show xG _ _ _ 15 _ [.inl r2] _ _
  exact x_zret (pc := 15) rfl (show decode mX8_isSlot.2.1 15 = .ok (.ireturn, 1) by decide +kernel) hR.1 ⟨_, rfl, hR.2⟩
set_option maxRecDepth 4000 in
theorem sg_X8_copies_1_2_0 {d : Nat} {h : xH} {Q : xH → Prop}
    (hR : gV wdM d mX8_copies 2 [some (.inr (.inr 1)), some (.inr (.inr 2)), some (.inl 0)] h Q) :
    gV wdM d mX8_copies 0 [some (.inr (.inr 1)), some (.inr (.inr 2)), none] h Q := by
  unfold gV
  refine x_iconst (pc := 0) (n := 0) (show decode mX8_copies.2.1 0 = .ok (.iconst 0, 1) by decide +kernel) ?_
  refine x_istore_n (pc := 1) (ls' := [some (.inr (.inr 1)), some (.inr (.inr 2)), some (.inl 0)]) (show decode mX8_copies.2.1 1 = .ok (.istore_n 2, 1) by decide +kernel) rfl (by decide) rfl ?_
  exact hR
set_option maxRecDepth 4000 in
theorem sg_X8_copies_1_2_2 {d : Nat} {x2 : Int} {h : xH} {Q : xH → Prop}
    (hR : (inI x2) ∧ (1705 ≤ x2 → Q h) ∧ (x2 < 1705 → (0 ≤ x2 ∧ x2 < 1705) ∧ (0 ≤ x2 ∧ x2 < 1705) ∧ gV wdM d mX8_copies 2 [some (.inr (.inr 1)), some (.inr (.inr 2)), some (.inl (x2 + 1))] (xu h 2 x2 (h 1 x2)) Q)) :
    gV wdM d mX8_copies 2 [some (.inr (.inr 1)), some (.inr (.inr 2)), some (.inl x2)] h Q := by
  unfold gV
  refine x_iload_n (pc := 2) (show decode mX8_copies.2.1 2 = .ok (.iload_n 2, 1) by decide +kernel) rfl rfl ?_
  refine x_sipush (pc := 3) (n := 1705) (show decode mX8_copies.2.1 3 = .ok (.sipush 1705, 3) by decide +kernel) rfl ?_
  obtain ⟨hg, hR⟩ := hR
  refine x_icmp_ge (pc := 6) (tgt := 21) (show decode mX8_copies.2.1 6 = .ok (.if_icmp .ge 15, 3) by decide +kernel) (by decide) ⟨hg, (by unfold inI; decide)⟩ (fun hc => ?_) (fun hc => ?_)
  · replace hR := hR.1 hc
    exact x_vret (pc := 21) rfl (show decode mX8_copies.2.1 21 = .ok (.return_, 1) by decide +kernel) ⟨rfl, hR⟩
  · replace hR := hR.2 hc
    refine x_aload_n (pc := 9) (show decode mX8_copies.2.1 9 = .ok (.aload_n 1, 1) by decide +kernel) rfl rfl ?_
    refine x_iload_n (pc := 10) (show decode mX8_copies.2.1 10 = .ok (.iload_n 2, 1) by decide +kernel) rfl rfl ?_
    refine x_aload_n (pc := 11) (show decode mX8_copies.2.1 11 = .ok (.aload_n 0, 1) by decide +kernel) rfl rfl ?_
    refine x_iload_n (pc := 12) (show decode mX8_copies.2.1 12 = .ok (.iload_n 2, 1) by decide +kernel) rfl rfl ?_
    obtain ⟨hg, hR⟩ := hR
    refine x_iald (pc := 13) rfl (by decide) hg (show decode mX8_copies.2.1 13 = .ok (.iaload, 1) by decide +kernel) ?_
    obtain ⟨hg, hR⟩ := hR
    refine x_iast (pc := 14) rfl (by decide) hg (show decode mX8_copies.2.1 14 = .ok (.iastore, 1) by decide +kernel) ?_
    refine x_iinc (pc := 15) (ls' := [some (.inr (.inr 1)), some (.inr (.inr 2)), some (.inl (x2 + 1))]) (show decode mX8_copies.2.1 15 = .ok (.iinc 2 1, 3) by decide +kernel) (by decide) rfl rfl ?_
    refine x_goto (pc := 18) (tgt := 2) (show decode mX8_copies.2.1 18 = .ok (.goto (-16), 3) by decide +kernel) (by decide) ?_
    exact hR
set_option maxRecDepth 4000 in
theorem sg_X8_copies_1_3_0 {d : Nat} {h : xH} {Q : xH → Prop}
    (hR : gV wdM d mX8_copies 2 [some (.inr (.inr 1)), some (.inr (.inr 3)), some (.inl 0)] h Q) :
    gV wdM d mX8_copies 0 [some (.inr (.inr 1)), some (.inr (.inr 3)), none] h Q := by
  unfold gV
  refine x_iconst (pc := 0) (n := 0) (show decode mX8_copies.2.1 0 = .ok (.iconst 0, 1) by decide +kernel) ?_
  refine x_istore_n (pc := 1) (ls' := [some (.inr (.inr 1)), some (.inr (.inr 3)), some (.inl 0)]) (show decode mX8_copies.2.1 1 = .ok (.istore_n 2, 1) by decide +kernel) rfl (by decide) rfl ?_
  exact hR
set_option maxRecDepth 4000 in
theorem sg_X8_copies_1_3_2 {d : Nat} {x2 : Int} {h : xH} {Q : xH → Prop}
    (hR : (inI x2) ∧ (1705 ≤ x2 → Q h) ∧ (x2 < 1705 → (0 ≤ x2 ∧ x2 < 1705) ∧ (0 ≤ x2 ∧ x2 < 1705) ∧ gV wdM d mX8_copies 2 [some (.inr (.inr 1)), some (.inr (.inr 3)), some (.inl (x2 + 1))] (xu h 3 x2 (h 1 x2)) Q)) :
    gV wdM d mX8_copies 2 [some (.inr (.inr 1)), some (.inr (.inr 3)), some (.inl x2)] h Q := by
  unfold gV
  refine x_iload_n (pc := 2) (show decode mX8_copies.2.1 2 = .ok (.iload_n 2, 1) by decide +kernel) rfl rfl ?_
  refine x_sipush (pc := 3) (n := 1705) (show decode mX8_copies.2.1 3 = .ok (.sipush 1705, 3) by decide +kernel) rfl ?_
  obtain ⟨hg, hR⟩ := hR
  refine x_icmp_ge (pc := 6) (tgt := 21) (show decode mX8_copies.2.1 6 = .ok (.if_icmp .ge 15, 3) by decide +kernel) (by decide) ⟨hg, (by unfold inI; decide)⟩ (fun hc => ?_) (fun hc => ?_)
  · replace hR := hR.1 hc
    exact x_vret (pc := 21) rfl (show decode mX8_copies.2.1 21 = .ok (.return_, 1) by decide +kernel) ⟨rfl, hR⟩
  · replace hR := hR.2 hc
    refine x_aload_n (pc := 9) (show decode mX8_copies.2.1 9 = .ok (.aload_n 1, 1) by decide +kernel) rfl rfl ?_
    refine x_iload_n (pc := 10) (show decode mX8_copies.2.1 10 = .ok (.iload_n 2, 1) by decide +kernel) rfl rfl ?_
    refine x_aload_n (pc := 11) (show decode mX8_copies.2.1 11 = .ok (.aload_n 0, 1) by decide +kernel) rfl rfl ?_
    refine x_iload_n (pc := 12) (show decode mX8_copies.2.1 12 = .ok (.iload_n 2, 1) by decide +kernel) rfl rfl ?_
    obtain ⟨hg, hR⟩ := hR
    refine x_iald (pc := 13) rfl (by decide) hg (show decode mX8_copies.2.1 13 = .ok (.iaload, 1) by decide +kernel) ?_
    obtain ⟨hg, hR⟩ := hR
    refine x_iast (pc := 14) rfl (by decide) hg (show decode mX8_copies.2.1 14 = .ok (.iastore, 1) by decide +kernel) ?_
    refine x_iinc (pc := 15) (ls' := [some (.inr (.inr 1)), some (.inr (.inr 3)), some (.inl (x2 + 1))]) (show decode mX8_copies.2.1 15 = .ok (.iinc 2 1, 3) by decide +kernel) (by decide) rfl rfl ?_
    refine x_goto (pc := 18) (tgt := 2) (show decode mX8_copies.2.1 18 = .ok (.goto (-16), 3) by decide +kernel) (by decide) ?_
    exact hR
set_option maxRecDepth 4000 in
theorem sg_X8_copies_3_1_0 {d : Nat} {h : xH} {Q : xH → Prop}
    (hR : gV wdM d mX8_copies 2 [some (.inr (.inr 3)), some (.inr (.inr 1)), some (.inl 0)] h Q) :
    gV wdM d mX8_copies 0 [some (.inr (.inr 3)), some (.inr (.inr 1)), none] h Q := by
  unfold gV
  refine x_iconst (pc := 0) (n := 0) (show decode mX8_copies.2.1 0 = .ok (.iconst 0, 1) by decide +kernel) ?_
  refine x_istore_n (pc := 1) (ls' := [some (.inr (.inr 3)), some (.inr (.inr 1)), some (.inl 0)]) (show decode mX8_copies.2.1 1 = .ok (.istore_n 2, 1) by decide +kernel) rfl (by decide) rfl ?_
  exact hR
set_option maxRecDepth 4000 in
theorem sg_X8_copies_3_1_2 {d : Nat} {x2 : Int} {h : xH} {Q : xH → Prop}
    (hR : (inI x2) ∧ (1705 ≤ x2 → Q h) ∧ (x2 < 1705 → (0 ≤ x2 ∧ x2 < 1705) ∧ (0 ≤ x2 ∧ x2 < 1705) ∧ gV wdM d mX8_copies 2 [some (.inr (.inr 3)), some (.inr (.inr 1)), some (.inl (x2 + 1))] (xu h 1 x2 (h 3 x2)) Q)) :
    gV wdM d mX8_copies 2 [some (.inr (.inr 3)), some (.inr (.inr 1)), some (.inl x2)] h Q := by
  unfold gV
  refine x_iload_n (pc := 2) (show decode mX8_copies.2.1 2 = .ok (.iload_n 2, 1) by decide +kernel) rfl rfl ?_
  refine x_sipush (pc := 3) (n := 1705) (show decode mX8_copies.2.1 3 = .ok (.sipush 1705, 3) by decide +kernel) rfl ?_
  obtain ⟨hg, hR⟩ := hR
  refine x_icmp_ge (pc := 6) (tgt := 21) (show decode mX8_copies.2.1 6 = .ok (.if_icmp .ge 15, 3) by decide +kernel) (by decide) ⟨hg, (by unfold inI; decide)⟩ (fun hc => ?_) (fun hc => ?_)
  · replace hR := hR.1 hc
    exact x_vret (pc := 21) rfl (show decode mX8_copies.2.1 21 = .ok (.return_, 1) by decide +kernel) ⟨rfl, hR⟩
  · replace hR := hR.2 hc
    refine x_aload_n (pc := 9) (show decode mX8_copies.2.1 9 = .ok (.aload_n 1, 1) by decide +kernel) rfl rfl ?_
    refine x_iload_n (pc := 10) (show decode mX8_copies.2.1 10 = .ok (.iload_n 2, 1) by decide +kernel) rfl rfl ?_
    refine x_aload_n (pc := 11) (show decode mX8_copies.2.1 11 = .ok (.aload_n 0, 1) by decide +kernel) rfl rfl ?_
    refine x_iload_n (pc := 12) (show decode mX8_copies.2.1 12 = .ok (.iload_n 2, 1) by decide +kernel) rfl rfl ?_
    obtain ⟨hg, hR⟩ := hR
    refine x_iald (pc := 13) rfl (by decide) hg (show decode mX8_copies.2.1 13 = .ok (.iaload, 1) by decide +kernel) ?_
    obtain ⟨hg, hR⟩ := hR
    refine x_iast (pc := 14) rfl (by decide) hg (show decode mX8_copies.2.1 14 = .ok (.iastore, 1) by decide +kernel) ?_
    refine x_iinc (pc := 15) (ls' := [some (.inr (.inr 3)), some (.inr (.inr 1)), some (.inl (x2 + 1))]) (show decode mX8_copies.2.1 15 = .ok (.iinc 2 1, 3) by decide +kernel) (by decide) rfl rfl ?_
    refine x_goto (pc := 18) (tgt := 2) (show decode mX8_copies.2.1 18 = .ok (.goto (-16), 3) by decide +kernel) (by decide) ?_
    exact hR
set_option maxRecDepth 4000 in
theorem sg_X8_copies_2_1_0 {d : Nat} {h : xH} {Q : xH → Prop}
    (hR : gV wdM d mX8_copies 2 [some (.inr (.inr 2)), some (.inr (.inr 1)), some (.inl 0)] h Q) :
    gV wdM d mX8_copies 0 [some (.inr (.inr 2)), some (.inr (.inr 1)), none] h Q := by
  unfold gV
  refine x_iconst (pc := 0) (n := 0) (show decode mX8_copies.2.1 0 = .ok (.iconst 0, 1) by decide +kernel) ?_
  refine x_istore_n (pc := 1) (ls' := [some (.inr (.inr 2)), some (.inr (.inr 1)), some (.inl 0)]) (show decode mX8_copies.2.1 1 = .ok (.istore_n 2, 1) by decide +kernel) rfl (by decide) rfl ?_
  exact hR
set_option maxRecDepth 4000 in
theorem sg_X8_copies_2_1_2 {d : Nat} {x2 : Int} {h : xH} {Q : xH → Prop}
    (hR : (inI x2) ∧ (1705 ≤ x2 → Q h) ∧ (x2 < 1705 → (0 ≤ x2 ∧ x2 < 1705) ∧ (0 ≤ x2 ∧ x2 < 1705) ∧ gV wdM d mX8_copies 2 [some (.inr (.inr 2)), some (.inr (.inr 1)), some (.inl (x2 + 1))] (xu h 1 x2 (h 2 x2)) Q)) :
    gV wdM d mX8_copies 2 [some (.inr (.inr 2)), some (.inr (.inr 1)), some (.inl x2)] h Q := by
  unfold gV
  refine x_iload_n (pc := 2) (show decode mX8_copies.2.1 2 = .ok (.iload_n 2, 1) by decide +kernel) rfl rfl ?_
  refine x_sipush (pc := 3) (n := 1705) (show decode mX8_copies.2.1 3 = .ok (.sipush 1705, 3) by decide +kernel) rfl ?_
  obtain ⟨hg, hR⟩ := hR
  refine x_icmp_ge (pc := 6) (tgt := 21) (show decode mX8_copies.2.1 6 = .ok (.if_icmp .ge 15, 3) by decide +kernel) (by decide) ⟨hg, (by unfold inI; decide)⟩ (fun hc => ?_) (fun hc => ?_)
  · replace hR := hR.1 hc
    exact x_vret (pc := 21) rfl (show decode mX8_copies.2.1 21 = .ok (.return_, 1) by decide +kernel) ⟨rfl, hR⟩
  · replace hR := hR.2 hc
    refine x_aload_n (pc := 9) (show decode mX8_copies.2.1 9 = .ok (.aload_n 1, 1) by decide +kernel) rfl rfl ?_
    refine x_iload_n (pc := 10) (show decode mX8_copies.2.1 10 = .ok (.iload_n 2, 1) by decide +kernel) rfl rfl ?_
    refine x_aload_n (pc := 11) (show decode mX8_copies.2.1 11 = .ok (.aload_n 0, 1) by decide +kernel) rfl rfl ?_
    refine x_iload_n (pc := 12) (show decode mX8_copies.2.1 12 = .ok (.iload_n 2, 1) by decide +kernel) rfl rfl ?_
    obtain ⟨hg, hR⟩ := hR
    refine x_iald (pc := 13) rfl (by decide) hg (show decode mX8_copies.2.1 13 = .ok (.iaload, 1) by decide +kernel) ?_
    obtain ⟨hg, hR⟩ := hR
    refine x_iast (pc := 14) rfl (by decide) hg (show decode mX8_copies.2.1 14 = .ok (.iastore, 1) by decide +kernel) ?_
    refine x_iinc (pc := 15) (ls' := [some (.inr (.inr 2)), some (.inr (.inr 1)), some (.inl (x2 + 1))]) (show decode mX8_copies.2.1 15 = .ok (.iinc 2 1, 3) by decide +kernel) (by decide) rfl rfl ?_
    refine x_goto (pc := 18) (tgt := 2) (show decode mX8_copies.2.1 18 = .ok (.goto (-16), 3) by decide +kernel) (by decide) ?_
    exact hR
set_option maxRecDepth 4000 in
theorem sg_X8_loom_0 {d : Nat} {x1 : Int} {h : xH} {Q : Int → xH → Prop} (hd : 1 ≤ d)
    (hR : inI x1 ∧ cB wdM (d - 1) mX8_isIn [.inr (.inl x1), .inr (.inl 2), .inr (.inl 12)] h (fun h1 => cV wdM (d - 1) mX8_starts [.inr (.inr 0), .inl x1] h1 (fun h2 => Q (h1 1 0) h2)) (fun h1 => Q (-2) h1)) :
    gI wdM d mX8_loom 0 [some (.inr (.inr 0)), some (.inl x1), none] h Q := by
  unfold gI
  refine x_iload_n (pc := 0) (show decode mX8_loom.2.1 0 = .ok (.iload_n 1, 1) by decide +kernel) rfl rfl ?_
  obtain ⟨hg, hR⟩ := hR
  refine x_i2l (pc := 1) (show decode mX8_loom.2.1 1 = .ok (.i2l, 1) by decide +kernel) hg ?_
  refine x_ldc2 (pc := 2) (n := 2) (tblG_m5 92 rfl rfl) rfl (show decode mX8_loom.2.1 2 = .ok (.ldc2_w 83, 3) by decide +kernel) ?_
  refine x_ldc2 (pc := 5) (n := 12) (tblG_m5 93 rfl rfl) rfl (show decode mX8_loom.2.1 5 = .ok (.ldc2_w 85, 3) by decide +kernel) ?_
  refine x_callS (pc := 8) (As := [.inr (.inl x1), .inr (.inl 2), .inr (.inl 12)]) (rest := []) (lk8_79 rfl) sm_X8_isIn (Nat.le_of_ble_eq_true rfl) (Nat.le_of_ble_eq_true rfl) (show decode mX8_loom.2.1 8 = .ok (.invokestatic 79, 3) by decide +kernel) hd hR (fun r9 h1 hq => ?_)
  obtain ⟨r8, rfl, hq⟩ := hq
  rcases hq with ⟨rfl, hR⟩ | ⟨rfl, hR⟩
  · show xG _ _ _ 11 _ [.inl 1] _ _
    refine x_if_ne (pc := 11) (tgt := 17) (show decode mX8_loom.2.1 11 = .ok (.ifCond .ne 6, 3) by decide +kernel) (by decide) (by unfold inI; decide) (fun _ => ?_) (fun hc => absurd hc (by decide))
    refine x_aload_n (pc := 17) (show decode mX8_loom.2.1 17 = .ok (.aload_n 0, 1) by decide +kernel) rfl rfl ?_
    refine x_getR (pc := 18) f8_11 rfl rfl (show decode mX8_loom.2.1 18 = .ok (.getfield 11, 3) by decide +kernel) ?_
    refine x_iconst (pc := 21) (n := 0) (show decode mX8_loom.2.1 21 = .ok (.iconst 0, 1) by decide +kernel) ?_
    refine x_iald (pc := 22) rfl (by decide) (by decide) (show decode mX8_loom.2.1 22 = .ok (.iaload, 1) by decide +kernel) ?_
    refine x_istore_n (pc := 23) (ls' := [some (.inr (.inr 0)), some (.inl x1), some (.inl (h1 1 0))]) (show decode mX8_loom.2.1 23 = .ok (.istore_n 2, 1) by decide +kernel) rfl (by decide) rfl ?_
    refine x_aload_n (pc := 24) (show decode mX8_loom.2.1 24 = .ok (.aload_n 0, 1) by decide +kernel) rfl rfl ?_
    refine x_iload_n (pc := 25) (show decode mX8_loom.2.1 25 = .ok (.iload_n 1, 1) by decide +kernel) rfl rfl ?_
    refine x_callV (pc := 26) (As := [.inl x1]) (rest := []) (lk8_75 rfl) im_X8_starts sl_X8_starts rfl rfl rfl (Nat.le_of_ble_eq_true rfl) (Nat.le_of_ble_eq_true rfl) (show decode mX8_loom.2.1 26 = .ok (.invokevirtual 75, 3) by decide +kernel) hd hR (fun r9 h2 hq => ?_)
    obtain ⟨rfl, hR⟩ := hq
    show xG _ _ _ 29 _ [] _ _
    refine x_iload_n (pc := 29) (show decode mX8_loom.2.1 29 = .ok (.iload_n 2, 1) by decide +kernel) rfl rfl ?_
    exact x_iret (pc := 30) rfl (show decode mX8_loom.2.1 30 = .ok (.ireturn, 1) by decide +kernel) ⟨_, rfl, hR⟩
  · show xG _ _ _ 11 _ [.inl 0] _ _
    refine x_if_ne (pc := 11) (tgt := 17) (show decode mX8_loom.2.1 11 = .ok (.ifCond .ne 6, 3) by decide +kernel) (by decide) (by unfold inI; decide) (fun hc => absurd hc (by decide)) (fun _ => ?_)
    refine x_bipush (pc := 14) (n := (-2)) (show decode mX8_loom.2.1 14 = .ok (.bipush (-2), 2) by decide +kernel) rfl ?_
    exact x_iret (pc := 16) rfl (show decode mX8_loom.2.1 16 = .ok (.ireturn, 1) by decide +kernel) ⟨_, rfl, hR⟩
set_option maxRecDepth 4000 in
theorem sg_X8_shares_0 {d : Nat} {x1 x2 : Int} {h : xH} {Q : Int → xH → Prop}
    (hR : (0 ≤ (35 + x1) ∧ (35 + x1) < 1705) ∧ (inI (h 1 (35 + x1)) ∧ inI x2) ∧ ((h 1 (35 + x1)) = x2 → Q 1 h) ∧ (¬ (h 1 (35 + x1)) = x2 → (0 ≤ (35 + x1) ∧ (35 + x1) < 1705) ∧ (inI ((h 1 (35 + x1)) + 1) ∧ inI x2) ∧ (¬ ((h 1 (35 + x1)) + 1) = x2 → Q 0 h) ∧ (((h 1 (35 + x1)) + 1) = x2 → Q 1 h))) :
    gI wdM d mX8_shares 0 [some (.inr (.inr 0)), some (.inl x1), some (.inl x2)] h Q := by
  unfold gI
  refine x_aload_n (pc := 0) (show decode mX8_shares.2.1 0 = .ok (.aload_n 0, 1) by decide +kernel) rfl rfl ?_
  refine x_getR (pc := 1) f8_11 rfl rfl (show decode mX8_shares.2.1 1 = .ok (.getfield 11, 3) by decide +kernel) ?_
  refine x_bipush (pc := 4) (n := 35) (show decode mX8_shares.2.1 4 = .ok (.bipush 35, 2) by decide +kernel) rfl ?_
  refine x_iload_n (pc := 6) (show decode mX8_shares.2.1 6 = .ok (.iload_n 1, 1) by decide +kernel) rfl rfl ?_
  refine x_iadd (pc := 7) (show decode mX8_shares.2.1 7 = .ok (.iadd, 1) by decide +kernel) ?_
  obtain ⟨hg, hR⟩ := hR
  refine x_iald (pc := 8) rfl (by decide) hg (show decode mX8_shares.2.1 8 = .ok (.iaload, 1) by decide +kernel) ?_
  refine x_iload_n (pc := 9) (show decode mX8_shares.2.1 9 = .ok (.iload_n 2, 1) by decide +kernel) rfl rfl ?_
  obtain ⟨hg, hR⟩ := hR
  refine x_icmp_eq (pc := 10) (tgt := 28) (show decode mX8_shares.2.1 10 = .ok (.if_icmp .eq 18, 3) by decide +kernel) (by decide) ⟨hg.1, hg.2⟩ (fun hc => ?_) (fun hc => ?_)
  · replace hR := hR.1 hc
    refine x_iconst (pc := 28) (n := 1) (show decode mX8_shares.2.1 28 = .ok (.iconst 1, 1) by decide +kernel) ?_
    refine x_goto (pc := 29) (tgt := 33) (show decode mX8_shares.2.1 29 = .ok (.goto 4, 3) by decide +kernel) (by decide) ?_
    exact x_zret (pc := 33) rfl (show decode mX8_shares.2.1 33 = .ok (.ireturn, 1) by decide +kernel) (by decide) ⟨_, rfl, hR⟩
  · replace hR := hR.2 hc
    refine x_aload_n (pc := 13) (show decode mX8_shares.2.1 13 = .ok (.aload_n 0, 1) by decide +kernel) rfl rfl ?_
    refine x_getR (pc := 14) f8_11 rfl rfl (show decode mX8_shares.2.1 14 = .ok (.getfield 11, 3) by decide +kernel) ?_
    refine x_bipush (pc := 17) (n := 35) (show decode mX8_shares.2.1 17 = .ok (.bipush 35, 2) by decide +kernel) rfl ?_
    refine x_iload_n (pc := 19) (show decode mX8_shares.2.1 19 = .ok (.iload_n 1, 1) by decide +kernel) rfl rfl ?_
    refine x_iadd (pc := 20) (show decode mX8_shares.2.1 20 = .ok (.iadd, 1) by decide +kernel) ?_
    obtain ⟨hg, hR⟩ := hR
    refine x_iald (pc := 21) rfl (by decide) hg (show decode mX8_shares.2.1 21 = .ok (.iaload, 1) by decide +kernel) ?_
    refine x_iconst (pc := 22) (n := 1) (show decode mX8_shares.2.1 22 = .ok (.iconst 1, 1) by decide +kernel) ?_
    refine x_iadd (pc := 23) (show decode mX8_shares.2.1 23 = .ok (.iadd, 1) by decide +kernel) ?_
    refine x_iload_n (pc := 24) (show decode mX8_shares.2.1 24 = .ok (.iload_n 2, 1) by decide +kernel) rfl rfl ?_
    obtain ⟨hg, hR⟩ := hR
    refine x_icmp_ne (pc := 25) (tgt := 32) (show decode mX8_shares.2.1 25 = .ok (.if_icmp .ne 7, 3) by decide +kernel) (by decide) ⟨hg.1, hg.2⟩ (fun hc => ?_) (fun hc => ?_)
    · replace hR := hR.1 hc
      refine x_iconst (pc := 32) (n := 0) (show decode mX8_shares.2.1 32 = .ok (.iconst 0, 1) by decide +kernel) ?_
      exact x_zret (pc := 33) rfl (show decode mX8_shares.2.1 33 = .ok (.ireturn, 1) by decide +kernel) (by decide) ⟨_, rfl, hR⟩
    · replace hR := hR.2 hc
      refine x_iconst (pc := 28) (n := 1) (show decode mX8_shares.2.1 28 = .ok (.iconst 1, 1) by decide +kernel) ?_
      refine x_goto (pc := 29) (tgt := 33) (show decode mX8_shares.2.1 29 = .ok (.goto 4, 3) by decide +kernel) (by decide) ?_
      exact x_zret (pc := 33) rfl (show decode mX8_shares.2.1 33 = .ok (.ireturn, 1) by decide +kernel) (by decide) ⟨_, rfl, hR⟩
set_option maxRecDepth 4000 in
theorem sg_X8_pin_0 {d : Nat} {x1 x2 x3 : Int} {h : xH} {Q : Int → xH → Prop} (hd : 1 ≤ d)
    (hR : inI x1 ∧ cB wdM (d - 1) mX8_isIn [.inr (.inl x1), .inr (.inl 0), .inr (.inl 99)] h (fun h1 => inI x2 ∧ inI ((h1 1 0) - 2) ∧ cB wdM (d - 1) mX8_isIn [.inr (.inl x2), .inr (.inl 0), .inr (.inl ((h1 1 0) - 2))] h1 (fun h2 => inI x3 ∧ cB wdM (d - 1) mX8_isIn [.inr (.inl x3), .inr (.inl 0), .inr (.inl 4)] h2 (fun h3 => (inI (h3 1 4)) ∧ ((h3 1 4) ≤ 0 → gI wdM d mX8_pin 60 [some (.inr (.inr 0)), some (.inl x1), some (.inl x2), some (.inl x3), some (.inl 0)] h3 Q) ∧ (0 < (h3 1 4) → Q (-3) h3)) (fun h3 => Q (-2) h3)) (fun h2 => Q (-2) h2)) (fun h1 => Q (-2) h1)) :
    gI wdM d mX8_pin 0 [some (.inr (.inr 0)), some (.inl x1), some (.inl x2), some (.inl x3), none] h Q := by
  unfold gI
  refine x_iload_n (pc := 0) (show decode mX8_pin.2.1 0 = .ok (.iload_n 1, 1) by decide +kernel) rfl rfl ?_
  obtain ⟨hg, hR⟩ := hR
  refine x_i2l (pc := 1) (show decode mX8_pin.2.1 1 = .ok (.i2l, 1) by decide +kernel) hg ?_
  refine x_lconst (pc := 2) (v := 0) (show decode mX8_pin.2.1 2 = .ok (.lconst 0, 1) by decide +kernel) rfl ?_
  refine x_ldc2 (pc := 3) (n := 99) (tblG_m5 101 rfl rfl) rfl (show decode mX8_pin.2.1 3 = .ok (.ldc2_w 87, 3) by decide +kernel) ?_
  refine x_callS (pc := 6) (As := [.inr (.inl x1), .inr (.inl 0), .inr (.inl 99)]) (rest := []) (lk8_79 rfl) sm_X8_isIn (Nat.le_of_ble_eq_true rfl) (Nat.le_of_ble_eq_true rfl) (show decode mX8_pin.2.1 6 = .ok (.invokestatic 79, 3) by decide +kernel) hd hR (fun r9 h1 hq => ?_)
  obtain ⟨r8, rfl, hq⟩ := hq
  rcases hq with ⟨rfl, hR⟩ | ⟨rfl, hR⟩
  · show xG _ _ _ 9 _ [.inl 1] _ _
    refine x_if_eq (pc := 9) (tgt := 42) (show decode mX8_pin.2.1 9 = .ok (.ifCond .eq 33, 3) by decide +kernel) (by decide) (by unfold inI; decide) (fun hc => absurd hc (by decide)) (fun _ => ?_)
    refine x_iload_n (pc := 12) (show decode mX8_pin.2.1 12 = .ok (.iload_n 2, 1) by decide +kernel) rfl rfl ?_
    obtain ⟨hg, hR⟩ := hR
    refine x_i2l (pc := 13) (show decode mX8_pin.2.1 13 = .ok (.i2l, 1) by decide +kernel) hg ?_
    refine x_lconst (pc := 14) (v := 0) (show decode mX8_pin.2.1 14 = .ok (.lconst 0, 1) by decide +kernel) rfl ?_
    refine x_aload_n (pc := 15) (show decode mX8_pin.2.1 15 = .ok (.aload_n 0, 1) by decide +kernel) rfl rfl ?_
    refine x_getR (pc := 16) f8_11 rfl rfl (show decode mX8_pin.2.1 16 = .ok (.getfield 11, 3) by decide +kernel) ?_
    refine x_iconst (pc := 19) (n := 0) (show decode mX8_pin.2.1 19 = .ok (.iconst 0, 1) by decide +kernel) ?_
    refine x_iald (pc := 20) rfl (by decide) (by decide) (show decode mX8_pin.2.1 20 = .ok (.iaload, 1) by decide +kernel) ?_
    refine x_iconst (pc := 21) (n := 2) (show decode mX8_pin.2.1 21 = .ok (.iconst 2, 1) by decide +kernel) ?_
    refine x_isub (pc := 22) (show decode mX8_pin.2.1 22 = .ok (.isub, 1) by decide +kernel) ?_
    obtain ⟨hg, hR⟩ := hR
    refine x_i2l (pc := 23) (show decode mX8_pin.2.1 23 = .ok (.i2l, 1) by decide +kernel) hg ?_
    refine x_callS (pc := 24) (As := [.inr (.inl x2), .inr (.inl 0), .inr (.inl ((h1 1 0) - 2))]) (rest := []) (lk8_79 rfl) sm_X8_isIn (Nat.le_of_ble_eq_true rfl) (Nat.le_of_ble_eq_true rfl) (show decode mX8_pin.2.1 24 = .ok (.invokestatic 79, 3) by decide +kernel) hd hR (fun r9 h2 hq => ?_)
    obtain ⟨r8, rfl, hq⟩ := hq
    rcases hq with ⟨rfl, hR⟩ | ⟨rfl, hR⟩
    · show xG _ _ _ 27 _ [.inl 1] _ _
      refine x_if_eq (pc := 27) (tgt := 42) (show decode mX8_pin.2.1 27 = .ok (.ifCond .eq 15, 3) by decide +kernel) (by decide) (by unfold inI; decide) (fun hc => absurd hc (by decide)) (fun _ => ?_)
      refine x_iload_n (pc := 30) (show decode mX8_pin.2.1 30 = .ok (.iload_n 3, 1) by decide +kernel) rfl rfl ?_
      obtain ⟨hg, hR⟩ := hR
      refine x_i2l (pc := 31) (show decode mX8_pin.2.1 31 = .ok (.i2l, 1) by decide +kernel) hg ?_
      refine x_lconst (pc := 32) (v := 0) (show decode mX8_pin.2.1 32 = .ok (.lconst 0, 1) by decide +kernel) rfl ?_
      refine x_ldc2 (pc := 33) (n := 4) (tblG_m5 102 rfl rfl) rfl (show decode mX8_pin.2.1 33 = .ok (.ldc2_w 89, 3) by decide +kernel) ?_
      refine x_callS (pc := 36) (As := [.inr (.inl x3), .inr (.inl 0), .inr (.inl 4)]) (rest := []) (lk8_79 rfl) sm_X8_isIn (Nat.le_of_ble_eq_true rfl) (Nat.le_of_ble_eq_true rfl) (show decode mX8_pin.2.1 36 = .ok (.invokestatic 79, 3) by decide +kernel) hd hR (fun r9 h3 hq => ?_)
      obtain ⟨r8, rfl, hq⟩ := hq
      rcases hq with ⟨rfl, hR⟩ | ⟨rfl, hR⟩
      · show xG _ _ _ 39 _ [.inl 1] _ _
        refine x_if_ne (pc := 39) (tgt := 45) (show decode mX8_pin.2.1 39 = .ok (.ifCond .ne 6, 3) by decide +kernel) (by decide) (by unfold inI; decide) (fun _ => ?_) (fun hc => absurd hc (by decide))
        refine x_aload_n (pc := 45) (show decode mX8_pin.2.1 45 = .ok (.aload_n 0, 1) by decide +kernel) rfl rfl ?_
        refine x_getR (pc := 46) f8_11 rfl rfl (show decode mX8_pin.2.1 46 = .ok (.getfield 11, 3) by decide +kernel) ?_
        refine x_iconst (pc := 49) (n := 4) (show decode mX8_pin.2.1 49 = .ok (.iconst 4, 1) by decide +kernel) ?_
        refine x_iald (pc := 50) rfl (by decide) (by decide) (show decode mX8_pin.2.1 50 = .ok (.iaload, 1) by decide +kernel) ?_
        obtain ⟨hg, hR⟩ := hR
        refine x_if_le (pc := 51) (tgt := 57) (show decode mX8_pin.2.1 51 = .ok (.ifCond .le 6, 3) by decide +kernel) (by decide) hg (fun hc => ?_) (fun hc => ?_)
        · replace hR := hR.1 hc
          refine x_iconst (pc := 57) (n := 0) (show decode mX8_pin.2.1 57 = .ok (.iconst 0, 1) by decide +kernel) ?_
          refine x_istore (pc := 58) (ls' := [some (.inr (.inr 0)), some (.inl x1), some (.inl x2), some (.inl x3), some (.inl 0)]) (show decode mX8_pin.2.1 58 = .ok (.istore 4, 2) by decide +kernel) (by decide) rfl ?_
          exact hR
        · replace hR := hR.2 hc
          refine x_bipush (pc := 54) (n := (-3)) (show decode mX8_pin.2.1 54 = .ok (.bipush (-3), 2) by decide +kernel) rfl ?_
          exact x_iret (pc := 56) rfl (show decode mX8_pin.2.1 56 = .ok (.ireturn, 1) by decide +kernel) ⟨_, rfl, hR⟩
      · show xG _ _ _ 39 _ [.inl 0] _ _
        refine x_if_ne (pc := 39) (tgt := 45) (show decode mX8_pin.2.1 39 = .ok (.ifCond .ne 6, 3) by decide +kernel) (by decide) (by unfold inI; decide) (fun hc => absurd hc (by decide)) (fun _ => ?_)
        refine x_bipush (pc := 42) (n := (-2)) (show decode mX8_pin.2.1 42 = .ok (.bipush (-2), 2) by decide +kernel) rfl ?_
        exact x_iret (pc := 44) rfl (show decode mX8_pin.2.1 44 = .ok (.ireturn, 1) by decide +kernel) ⟨_, rfl, hR⟩
    · show xG _ _ _ 27 _ [.inl 0] _ _
      refine x_if_eq (pc := 27) (tgt := 42) (show decode mX8_pin.2.1 27 = .ok (.ifCond .eq 15, 3) by decide +kernel) (by decide) (by unfold inI; decide) (fun _ => ?_) (fun hc => absurd hc (by decide))
      refine x_bipush (pc := 42) (n := (-2)) (show decode mX8_pin.2.1 42 = .ok (.bipush (-2), 2) by decide +kernel) rfl ?_
      exact x_iret (pc := 44) rfl (show decode mX8_pin.2.1 44 = .ok (.ireturn, 1) by decide +kernel) ⟨_, rfl, hR⟩
  · show xG _ _ _ 9 _ [.inl 0] _ _
    refine x_if_eq (pc := 9) (tgt := 42) (show decode mX8_pin.2.1 9 = .ok (.ifCond .eq 33, 3) by decide +kernel) (by decide) (by unfold inI; decide) (fun _ => ?_) (fun hc => absurd hc (by decide))
    refine x_bipush (pc := 42) (n := (-2)) (show decode mX8_pin.2.1 42 = .ok (.bipush (-2), 2) by decide +kernel) rfl ?_
    exact x_iret (pc := 44) rfl (show decode mX8_pin.2.1 44 = .ok (.ireturn, 1) by decide +kernel) ⟨_, rfl, hR⟩
set_option maxRecDepth 4000 in
theorem sg_X8_pin_60 {d : Nat} {x1 x2 x3 x4 : Int} {h : xH} {Q : Int → xH → Prop} (hd : 1 ≤ d)
    (hR : (inI x4 ∧ inI (h 1 1)) ∧ ((h 1 1) ≤ x4 → (inI (h 1 1)) ∧ (¬ (h 1 1) = 30 → (0 ≤ (5 + (h 1 1)) ∧ (5 + (h 1 1)) < 1705) ∧ (0 ≤ (35 + ((xu h 1 (5 + (h 1 1)) x1) 1 1)) ∧ (35 + ((xu h 1 (5 + (h 1 1)) x1) 1 1)) < 1705) ∧ (0 ≤ (65 + ((xu (xu h 1 (5 + (h 1 1)) x1) 1 (35 + ((xu h 1 (5 + (h 1 1)) x1) 1 1)) x2) 1 1)) ∧ (65 + ((xu (xu h 1 (5 + (h 1 1)) x1) 1 (35 + ((xu h 1 (5 + (h 1 1)) x1) 1 1)) x2) 1 1)) < 1705) ∧ Q ((((xu (xu (xu h 1 (5 + (h 1 1)) x1) 1 (35 + ((xu h 1 (5 + (h 1 1)) x1) 1 1)) x2) 1 (65 + ((xu (xu h 1 (5 + (h 1 1)) x1) 1 (35 + ((xu h 1 (5 + (h 1 1)) x1) 1 1)) x2) 1 1)) x3) 1 1) + 1) - 1) (xu (xu (xu (xu h 1 (5 + (h 1 1)) x1) 1 (35 + ((xu h 1 (5 + (h 1 1)) x1) 1 1)) x2) 1 (65 + ((xu (xu h 1 (5 + (h 1 1)) x1) 1 (35 + ((xu h 1 (5 + (h 1 1)) x1) 1 1)) x2) 1 1)) x3) 1 1 (((xu (xu (xu h 1 (5 + (h 1 1)) x1) 1 (35 + ((xu h 1 (5 + (h 1 1)) x1) 1 1)) x2) 1 (65 + ((xu (xu h 1 (5 + (h 1 1)) x1) 1 (35 + ((xu h 1 (5 + (h 1 1)) x1) 1 1)) x2) 1 1)) x3) 1 1) + 1))) ∧ ((h 1 1) = 30 → Q (-4) h)) ∧ (x4 < (h 1 1) → (0 ≤ (5 + x4) ∧ (5 + x4) < 1705) ∧ (inI (h 1 (5 + x4)) ∧ inI x1) ∧ (¬ (h 1 (5 + x4)) = x1 → gI wdM d mX8_pin 60 [some (.inr (.inr 0)), some (.inl x1), some (.inl x2), some (.inl x3), some (.inl (x4 + 1))] h Q) ∧ ((h 1 (5 + x4)) = x1 → cB wdM (d - 1) mX8_shares [.inr (.inr 0), .inl x4, .inl x2] h (fun h1 => Q (-3) h1) (fun h1 => cB wdM (d - 1) mX8_shares [.inr (.inr 0), .inl x4, .inl (x2 + 1)] h1 (fun h2 => Q (-3) h2) (fun h2 => gI wdM d mX8_pin 60 [some (.inr (.inr 0)), some (.inl x1), some (.inl x2), some (.inl x3), some (.inl (x4 + 1))] h2 Q))))) :
    gI wdM d mX8_pin 60 [some (.inr (.inr 0)), some (.inl x1), some (.inl x2), some (.inl x3), some (.inl x4)] h Q := by
  unfold gI
  refine x_iload (pc := 60) (show decode mX8_pin.2.1 60 = .ok (.iload 4, 2) by decide +kernel) rfl ?_
  refine x_aload_n (pc := 62) (show decode mX8_pin.2.1 62 = .ok (.aload_n 0, 1) by decide +kernel) rfl rfl ?_
  refine x_getR (pc := 63) f8_11 rfl rfl (show decode mX8_pin.2.1 63 = .ok (.getfield 11, 3) by decide +kernel) ?_
  refine x_iconst (pc := 66) (n := 1) (show decode mX8_pin.2.1 66 = .ok (.iconst 1, 1) by decide +kernel) ?_
  refine x_iald (pc := 67) rfl (by decide) (by decide) (show decode mX8_pin.2.1 67 = .ok (.iaload, 1) by decide +kernel) ?_
  obtain ⟨hg, hR⟩ := hR
  refine x_icmp_ge (pc := 68) (tgt := 115) (show decode mX8_pin.2.1 68 = .ok (.if_icmp .ge 47, 3) by decide +kernel) (by decide) ⟨hg.1, hg.2⟩ (fun hc => ?_) (fun hc => ?_)
  · replace hR := hR.1 hc
    refine x_aload_n (pc := 115) (show decode mX8_pin.2.1 115 = .ok (.aload_n 0, 1) by decide +kernel) rfl rfl ?_
    refine x_getR (pc := 116) f8_11 rfl rfl (show decode mX8_pin.2.1 116 = .ok (.getfield 11, 3) by decide +kernel) ?_
    refine x_iconst (pc := 119) (n := 1) (show decode mX8_pin.2.1 119 = .ok (.iconst 1, 1) by decide +kernel) ?_
    refine x_iald (pc := 120) rfl (by decide) (by decide) (show decode mX8_pin.2.1 120 = .ok (.iaload, 1) by decide +kernel) ?_
    refine x_bipush (pc := 121) (n := 30) (show decode mX8_pin.2.1 121 = .ok (.bipush 30, 2) by decide +kernel) rfl ?_
    obtain ⟨hg, hR⟩ := hR
    refine x_icmp_ne (pc := 123) (tgt := 129) (show decode mX8_pin.2.1 123 = .ok (.if_icmp .ne 6, 3) by decide +kernel) (by decide) ⟨hg, (by unfold inI; decide)⟩ (fun hc => ?_) (fun hc => ?_)
    · replace hR := hR.1 hc
      refine x_aload_n (pc := 129) (show decode mX8_pin.2.1 129 = .ok (.aload_n 0, 1) by decide +kernel) rfl rfl ?_
      refine x_getR (pc := 130) f8_11 rfl rfl (show decode mX8_pin.2.1 130 = .ok (.getfield 11, 3) by decide +kernel) ?_
      refine x_iconst (pc := 133) (n := 5) (show decode mX8_pin.2.1 133 = .ok (.iconst 5, 1) by decide +kernel) ?_
      refine x_aload_n (pc := 134) (show decode mX8_pin.2.1 134 = .ok (.aload_n 0, 1) by decide +kernel) rfl rfl ?_
      refine x_getR (pc := 135) f8_11 rfl rfl (show decode mX8_pin.2.1 135 = .ok (.getfield 11, 3) by decide +kernel) ?_
      refine x_iconst (pc := 138) (n := 1) (show decode mX8_pin.2.1 138 = .ok (.iconst 1, 1) by decide +kernel) ?_
      refine x_iald (pc := 139) rfl (by decide) (by decide) (show decode mX8_pin.2.1 139 = .ok (.iaload, 1) by decide +kernel) ?_
      refine x_iadd (pc := 140) (show decode mX8_pin.2.1 140 = .ok (.iadd, 1) by decide +kernel) ?_
      refine x_iload_n (pc := 141) (show decode mX8_pin.2.1 141 = .ok (.iload_n 1, 1) by decide +kernel) rfl rfl ?_
      obtain ⟨hg, hR⟩ := hR
      refine x_iast (pc := 142) rfl (by decide) hg (show decode mX8_pin.2.1 142 = .ok (.iastore, 1) by decide +kernel) ?_
      refine x_aload_n (pc := 143) (show decode mX8_pin.2.1 143 = .ok (.aload_n 0, 1) by decide +kernel) rfl rfl ?_
      refine x_getR (pc := 144) f8_11 rfl rfl (show decode mX8_pin.2.1 144 = .ok (.getfield 11, 3) by decide +kernel) ?_
      refine x_bipush (pc := 147) (n := 35) (show decode mX8_pin.2.1 147 = .ok (.bipush 35, 2) by decide +kernel) rfl ?_
      refine x_aload_n (pc := 149) (show decode mX8_pin.2.1 149 = .ok (.aload_n 0, 1) by decide +kernel) rfl rfl ?_
      refine x_getR (pc := 150) f8_11 rfl rfl (show decode mX8_pin.2.1 150 = .ok (.getfield 11, 3) by decide +kernel) ?_
      refine x_iconst (pc := 153) (n := 1) (show decode mX8_pin.2.1 153 = .ok (.iconst 1, 1) by decide +kernel) ?_
      refine x_iald (pc := 154) rfl (by decide) (by decide) (show decode mX8_pin.2.1 154 = .ok (.iaload, 1) by decide +kernel) ?_
      refine x_iadd (pc := 155) (show decode mX8_pin.2.1 155 = .ok (.iadd, 1) by decide +kernel) ?_
      refine x_iload_n (pc := 156) (show decode mX8_pin.2.1 156 = .ok (.iload_n 2, 1) by decide +kernel) rfl rfl ?_
      obtain ⟨hg, hR⟩ := hR
      refine x_iast (pc := 157) rfl (by decide) hg (show decode mX8_pin.2.1 157 = .ok (.iastore, 1) by decide +kernel) ?_
      refine x_aload_n (pc := 158) (show decode mX8_pin.2.1 158 = .ok (.aload_n 0, 1) by decide +kernel) rfl rfl ?_
      refine x_getR (pc := 159) f8_11 rfl rfl (show decode mX8_pin.2.1 159 = .ok (.getfield 11, 3) by decide +kernel) ?_
      refine x_bipush (pc := 162) (n := 65) (show decode mX8_pin.2.1 162 = .ok (.bipush 65, 2) by decide +kernel) rfl ?_
      refine x_aload_n (pc := 164) (show decode mX8_pin.2.1 164 = .ok (.aload_n 0, 1) by decide +kernel) rfl rfl ?_
      refine x_getR (pc := 165) f8_11 rfl rfl (show decode mX8_pin.2.1 165 = .ok (.getfield 11, 3) by decide +kernel) ?_
      refine x_iconst (pc := 168) (n := 1) (show decode mX8_pin.2.1 168 = .ok (.iconst 1, 1) by decide +kernel) ?_
      refine x_iald (pc := 169) rfl (by decide) (by decide) (show decode mX8_pin.2.1 169 = .ok (.iaload, 1) by decide +kernel) ?_
      refine x_iadd (pc := 170) (show decode mX8_pin.2.1 170 = .ok (.iadd, 1) by decide +kernel) ?_
      refine x_iload_n (pc := 171) (show decode mX8_pin.2.1 171 = .ok (.iload_n 3, 1) by decide +kernel) rfl rfl ?_
      obtain ⟨hg, hR⟩ := hR
      refine x_iast (pc := 172) rfl (by decide) hg (show decode mX8_pin.2.1 172 = .ok (.iastore, 1) by decide +kernel) ?_
      refine x_aload_n (pc := 173) (show decode mX8_pin.2.1 173 = .ok (.aload_n 0, 1) by decide +kernel) rfl rfl ?_
      refine x_getR (pc := 174) f8_11 rfl rfl (show decode mX8_pin.2.1 174 = .ok (.getfield 11, 3) by decide +kernel) ?_
      refine x_iconst (pc := 177) (n := 1) (show decode mX8_pin.2.1 177 = .ok (.iconst 1, 1) by decide +kernel) ?_
      refine x_dup2 (pc := 178) (show decode mX8_pin.2.1 178 = .ok (.dup2, 1) by decide +kernel) rfl rfl ?_
      refine x_iald (pc := 179) rfl (by decide) (by decide) (show decode mX8_pin.2.1 179 = .ok (.iaload, 1) by decide +kernel) ?_
      refine x_iconst (pc := 180) (n := 1) (show decode mX8_pin.2.1 180 = .ok (.iconst 1, 1) by decide +kernel) ?_
      refine x_iadd (pc := 181) (show decode mX8_pin.2.1 181 = .ok (.iadd, 1) by decide +kernel) ?_
      refine x_iast (pc := 182) rfl (by decide) (by decide) (show decode mX8_pin.2.1 182 = .ok (.iastore, 1) by decide +kernel) ?_
      refine x_aload_n (pc := 183) (show decode mX8_pin.2.1 183 = .ok (.aload_n 0, 1) by decide +kernel) rfl rfl ?_
      refine x_getR (pc := 184) f8_11 rfl rfl (show decode mX8_pin.2.1 184 = .ok (.getfield 11, 3) by decide +kernel) ?_
      refine x_iconst (pc := 187) (n := 1) (show decode mX8_pin.2.1 187 = .ok (.iconst 1, 1) by decide +kernel) ?_
      refine x_iald (pc := 188) rfl (by decide) (by decide) (show decode mX8_pin.2.1 188 = .ok (.iaload, 1) by decide +kernel) ?_
      refine x_iconst (pc := 189) (n := 1) (show decode mX8_pin.2.1 189 = .ok (.iconst 1, 1) by decide +kernel) ?_
      refine x_isub (pc := 190) (show decode mX8_pin.2.1 190 = .ok (.isub, 1) by decide +kernel) ?_
      exact x_iret (pc := 191) rfl (show decode mX8_pin.2.1 191 = .ok (.ireturn, 1) by decide +kernel) ⟨_, rfl, hR⟩
    · replace hR := hR.2 hc
      refine x_bipush (pc := 126) (n := (-4)) (show decode mX8_pin.2.1 126 = .ok (.bipush (-4), 2) by decide +kernel) rfl ?_
      exact x_iret (pc := 128) rfl (show decode mX8_pin.2.1 128 = .ok (.ireturn, 1) by decide +kernel) ⟨_, rfl, hR⟩
  · replace hR := hR.2 hc
    refine x_aload_n (pc := 71) (show decode mX8_pin.2.1 71 = .ok (.aload_n 0, 1) by decide +kernel) rfl rfl ?_
    refine x_getR (pc := 72) f8_11 rfl rfl (show decode mX8_pin.2.1 72 = .ok (.getfield 11, 3) by decide +kernel) ?_
    refine x_iconst (pc := 75) (n := 5) (show decode mX8_pin.2.1 75 = .ok (.iconst 5, 1) by decide +kernel) ?_
    refine x_iload (pc := 76) (show decode mX8_pin.2.1 76 = .ok (.iload 4, 2) by decide +kernel) rfl ?_
    refine x_iadd (pc := 78) (show decode mX8_pin.2.1 78 = .ok (.iadd, 1) by decide +kernel) ?_
    obtain ⟨hg, hR⟩ := hR
    refine x_iald (pc := 79) rfl (by decide) hg (show decode mX8_pin.2.1 79 = .ok (.iaload, 1) by decide +kernel) ?_
    refine x_iload_n (pc := 80) (show decode mX8_pin.2.1 80 = .ok (.iload_n 1, 1) by decide +kernel) rfl rfl ?_
    obtain ⟨hg, hR⟩ := hR
    refine x_icmp_ne (pc := 81) (tgt := 109) (show decode mX8_pin.2.1 81 = .ok (.if_icmp .ne 28, 3) by decide +kernel) (by decide) ⟨hg.1, hg.2⟩ (fun hc => ?_) (fun hc => ?_)
    · replace hR := hR.1 hc
      refine x_iinc (pc := 109) (ls' := [some (.inr (.inr 0)), some (.inl x1), some (.inl x2), some (.inl x3), some (.inl (x4 + 1))]) (show decode mX8_pin.2.1 109 = .ok (.iinc 4 1, 3) by decide +kernel) (by decide) rfl rfl ?_
      refine x_goto (pc := 112) (tgt := 60) (show decode mX8_pin.2.1 112 = .ok (.goto (-52), 3) by decide +kernel) (by decide) ?_
      exact hR
    · replace hR := hR.2 hc
      refine x_aload_n (pc := 84) (show decode mX8_pin.2.1 84 = .ok (.aload_n 0, 1) by decide +kernel) rfl rfl ?_
      refine x_iload (pc := 85) (show decode mX8_pin.2.1 85 = .ok (.iload 4, 2) by decide +kernel) rfl ?_
      refine x_iload_n (pc := 87) (show decode mX8_pin.2.1 87 = .ok (.iload_n 2, 1) by decide +kernel) rfl rfl ?_
      refine x_callV (pc := 88) (As := [.inl x4, .inl x2]) (rest := []) (lk8_91 rfl) im_X8_shares sl_X8_shares rfl rfl rfl (Nat.le_of_ble_eq_true rfl) (Nat.le_of_ble_eq_true rfl) (show decode mX8_pin.2.1 88 = .ok (.invokevirtual 91, 3) by decide +kernel) hd hR (fun r9 h1 hq => ?_)
      obtain ⟨r8, rfl, hq⟩ := hq
      rcases hq with ⟨rfl, hR⟩ | ⟨rfl, hR⟩
      · show xG _ _ _ 91 _ [.inl 1] _ _
        refine x_if_ne (pc := 91) (tgt := 106) (show decode mX8_pin.2.1 91 = .ok (.ifCond .ne 15, 3) by decide +kernel) (by decide) (by unfold inI; decide) (fun _ => ?_) (fun hc => absurd hc (by decide))
        refine x_bipush (pc := 106) (n := (-3)) (show decode mX8_pin.2.1 106 = .ok (.bipush (-3), 2) by decide +kernel) rfl ?_
        exact x_iret (pc := 108) rfl (show decode mX8_pin.2.1 108 = .ok (.ireturn, 1) by decide +kernel) ⟨_, rfl, hR⟩
      · show xG _ _ _ 91 _ [.inl 0] _ _
        refine x_if_ne (pc := 91) (tgt := 106) (show decode mX8_pin.2.1 91 = .ok (.ifCond .ne 15, 3) by decide +kernel) (by decide) (by unfold inI; decide) (fun hc => absurd hc (by decide)) (fun _ => ?_)
        refine x_aload_n (pc := 94) (show decode mX8_pin.2.1 94 = .ok (.aload_n 0, 1) by decide +kernel) rfl rfl ?_
        refine x_iload (pc := 95) (show decode mX8_pin.2.1 95 = .ok (.iload 4, 2) by decide +kernel) rfl ?_
        refine x_iload_n (pc := 97) (show decode mX8_pin.2.1 97 = .ok (.iload_n 2, 1) by decide +kernel) rfl rfl ?_
        refine x_iconst (pc := 98) (n := 1) (show decode mX8_pin.2.1 98 = .ok (.iconst 1, 1) by decide +kernel) ?_
        refine x_iadd (pc := 99) (show decode mX8_pin.2.1 99 = .ok (.iadd, 1) by decide +kernel) ?_
        refine x_callV (pc := 100) (As := [.inl x4, .inl (x2 + 1)]) (rest := []) (lk8_91 rfl) im_X8_shares sl_X8_shares rfl rfl rfl (Nat.le_of_ble_eq_true rfl) (Nat.le_of_ble_eq_true rfl) (show decode mX8_pin.2.1 100 = .ok (.invokevirtual 91, 3) by decide +kernel) hd hR (fun r9 h2 hq => ?_)
        obtain ⟨r8, rfl, hq⟩ := hq
        rcases hq with ⟨rfl, hR⟩ | ⟨rfl, hR⟩
        · show xG _ _ _ 103 _ [.inl 1] _ _
          refine x_if_eq (pc := 103) (tgt := 109) (show decode mX8_pin.2.1 103 = .ok (.ifCond .eq 6, 3) by decide +kernel) (by decide) (by unfold inI; decide) (fun hc => absurd hc (by decide)) (fun _ => ?_)
          refine x_bipush (pc := 106) (n := (-3)) (show decode mX8_pin.2.1 106 = .ok (.bipush (-3), 2) by decide +kernel) rfl ?_
          exact x_iret (pc := 108) rfl (show decode mX8_pin.2.1 108 = .ok (.ireturn, 1) by decide +kernel) ⟨_, rfl, hR⟩
        · show xG _ _ _ 103 _ [.inl 0] _ _
          refine x_if_eq (pc := 103) (tgt := 109) (show decode mX8_pin.2.1 103 = .ok (.ifCond .eq 6, 3) by decide +kernel) (by decide) (by unfold inI; decide) (fun _ => ?_) (fun hc => absurd hc (by decide))
          refine x_iinc (pc := 109) (ls' := [some (.inr (.inr 0)), some (.inl x1), some (.inl x2), some (.inl x3), some (.inl (x4 + 1))]) (show decode mX8_pin.2.1 109 = .ok (.iinc 4 1, 3) by decide +kernel) (by decide) rfl rfl ?_
          refine x_goto (pc := 112) (tgt := 60) (show decode mX8_pin.2.1 112 = .ok (.goto (-52), 3) by decide +kernel) (by decide) ?_
          exact hR
set_option maxRecDepth 4000 in
theorem sg_X8_drop_0 {d : Nat} {h : xH} {Q : Int → xH → Prop}
    (hR : (inI (h 1 4)) ∧ (0 < (h 1 4) → Q (-3) h) ∧ ((h 1 4) ≤ 0 → (inI (h 1 1)) ∧ (¬ (h 1 1) = 0 → Q ((h 1 1) - 1) (xu h 1 1 ((h 1 1) - 1))) ∧ ((h 1 1) = 0 → Q (-3) h))) :
    gI wdM d mX8_drop 0 [some (.inr (.inr 0))] h Q := by
  unfold gI
  refine x_aload_n (pc := 0) (show decode mX8_drop.2.1 0 = .ok (.aload_n 0, 1) by decide +kernel) rfl rfl ?_
  refine x_getR (pc := 1) f8_11 rfl rfl (show decode mX8_drop.2.1 1 = .ok (.getfield 11, 3) by decide +kernel) ?_
  refine x_iconst (pc := 4) (n := 4) (show decode mX8_drop.2.1 4 = .ok (.iconst 4, 1) by decide +kernel) ?_
  refine x_iald (pc := 5) rfl (by decide) (by decide) (show decode mX8_drop.2.1 5 = .ok (.iaload, 1) by decide +kernel) ?_
  obtain ⟨hg, hR⟩ := hR
  refine x_if_gt (pc := 6) (tgt := 18) (show decode mX8_drop.2.1 6 = .ok (.ifCond .gt 12, 3) by decide +kernel) (by decide) hg (fun hc => ?_) (fun hc => ?_)
  · replace hR := hR.1 hc
    refine x_bipush (pc := 18) (n := (-3)) (show decode mX8_drop.2.1 18 = .ok (.bipush (-3), 2) by decide +kernel) rfl ?_
    exact x_iret (pc := 20) rfl (show decode mX8_drop.2.1 20 = .ok (.ireturn, 1) by decide +kernel) ⟨_, rfl, hR⟩
  · replace hR := hR.2 hc
    refine x_aload_n (pc := 9) (show decode mX8_drop.2.1 9 = .ok (.aload_n 0, 1) by decide +kernel) rfl rfl ?_
    refine x_getR (pc := 10) f8_11 rfl rfl (show decode mX8_drop.2.1 10 = .ok (.getfield 11, 3) by decide +kernel) ?_
    refine x_iconst (pc := 13) (n := 1) (show decode mX8_drop.2.1 13 = .ok (.iconst 1, 1) by decide +kernel) ?_
    refine x_iald (pc := 14) rfl (by decide) (by decide) (show decode mX8_drop.2.1 14 = .ok (.iaload, 1) by decide +kernel) ?_
    obtain ⟨hg, hR⟩ := hR
    refine x_if_ne (pc := 15) (tgt := 21) (show decode mX8_drop.2.1 15 = .ok (.ifCond .ne 6, 3) by decide +kernel) (by decide) hg (fun hc => ?_) (fun hc => ?_)
    · replace hR := hR.1 hc
      refine x_aload_n (pc := 21) (show decode mX8_drop.2.1 21 = .ok (.aload_n 0, 1) by decide +kernel) rfl rfl ?_
      refine x_getR (pc := 22) f8_11 rfl rfl (show decode mX8_drop.2.1 22 = .ok (.getfield 11, 3) by decide +kernel) ?_
      refine x_iconst (pc := 25) (n := 1) (show decode mX8_drop.2.1 25 = .ok (.iconst 1, 1) by decide +kernel) ?_
      refine x_dup2 (pc := 26) (show decode mX8_drop.2.1 26 = .ok (.dup2, 1) by decide +kernel) rfl rfl ?_
      refine x_iald (pc := 27) rfl (by decide) (by decide) (show decode mX8_drop.2.1 27 = .ok (.iaload, 1) by decide +kernel) ?_
      refine x_iconst (pc := 28) (n := 1) (show decode mX8_drop.2.1 28 = .ok (.iconst 1, 1) by decide +kernel) ?_
      refine x_isub (pc := 29) (show decode mX8_drop.2.1 29 = .ok (.isub, 1) by decide +kernel) ?_
      refine x_iast (pc := 30) rfl (by decide) (by decide) (show decode mX8_drop.2.1 30 = .ok (.iastore, 1) by decide +kernel) ?_
      refine x_aload_n (pc := 31) (show decode mX8_drop.2.1 31 = .ok (.aload_n 0, 1) by decide +kernel) rfl rfl ?_
      refine x_getR (pc := 32) f8_11 rfl rfl (show decode mX8_drop.2.1 32 = .ok (.getfield 11, 3) by decide +kernel) ?_
      refine x_iconst (pc := 35) (n := 1) (show decode mX8_drop.2.1 35 = .ok (.iconst 1, 1) by decide +kernel) ?_
      refine x_iald (pc := 36) rfl (by decide) (by decide) (show decode mX8_drop.2.1 36 = .ok (.iaload, 1) by decide +kernel) ?_
      exact x_iret (pc := 37) rfl (show decode mX8_drop.2.1 37 = .ok (.ireturn, 1) by decide +kernel) ⟨_, rfl, hR⟩
    · replace hR := hR.2 hc
      refine x_bipush (pc := 18) (n := (-3)) (show decode mX8_drop.2.1 18 = .ok (.bipush (-3), 2) by decide +kernel) rfl ?_
      exact x_iret (pc := 20) rfl (show decode mX8_drop.2.1 20 = .ok (.ireturn, 1) by decide +kernel) ⟨_, rfl, hR⟩
set_option maxRecDepth 4000 in
theorem sg_X8_becomes_0 {d : Nat} {x1 x2 : Int} {h : xH} {Q : Int → xH → Prop}
    (hR : (0 ≤ x1 ∧ x1 < 1705) ∧ (0 ≤ x1 ∧ x1 < 1705) ∧ Q (h 1 x1) (xu h 1 x1 x2)) :
    gI wdM d mX8_becomes 0 [some (.inr (.inr 0)), some (.inl x1), some (.inl x2), none] h Q := by
  unfold gI
  refine x_aload_n (pc := 0) (show decode mX8_becomes.2.1 0 = .ok (.aload_n 0, 1) by decide +kernel) rfl rfl ?_
  refine x_getR (pc := 1) f8_11 rfl rfl (show decode mX8_becomes.2.1 1 = .ok (.getfield 11, 3) by decide +kernel) ?_
  refine x_iload_n (pc := 4) (show decode mX8_becomes.2.1 4 = .ok (.iload_n 1, 1) by decide +kernel) rfl rfl ?_
  obtain ⟨hg, hR⟩ := hR
  refine x_iald (pc := 5) rfl (by decide) hg (show decode mX8_becomes.2.1 5 = .ok (.iaload, 1) by decide +kernel) ?_
  refine x_istore_n (pc := 6) (ls' := [some (.inr (.inr 0)), some (.inl x1), some (.inl x2), some (.inl (h 1 x1))]) (show decode mX8_becomes.2.1 6 = .ok (.istore_n 3, 1) by decide +kernel) rfl (by decide) rfl ?_
  refine x_aload_n (pc := 7) (show decode mX8_becomes.2.1 7 = .ok (.aload_n 0, 1) by decide +kernel) rfl rfl ?_
  refine x_getR (pc := 8) f8_11 rfl rfl (show decode mX8_becomes.2.1 8 = .ok (.getfield 11, 3) by decide +kernel) ?_
  refine x_iload_n (pc := 11) (show decode mX8_becomes.2.1 11 = .ok (.iload_n 1, 1) by decide +kernel) rfl rfl ?_
  refine x_iload_n (pc := 12) (show decode mX8_becomes.2.1 12 = .ok (.iload_n 2, 1) by decide +kernel) rfl rfl ?_
  obtain ⟨hg, hR⟩ := hR
  refine x_iast (pc := 13) rfl (by decide) hg (show decode mX8_becomes.2.1 13 = .ok (.iastore, 1) by decide +kernel) ?_
  refine x_iload_n (pc := 14) (show decode mX8_becomes.2.1 14 = .ok (.iload_n 3, 1) by decide +kernel) rfl rfl ?_
  exact x_iret (pc := 15) rfl (show decode mX8_becomes.2.1 15 = .ok (.ireturn, 1) by decide +kernel) ⟨_, rfl, hR⟩
set_option maxRecDepth 4000 in
theorem sg_X8_stitch_0 {d : Nat} {x1 x2 : Int} {h : xH} {Q : Int → xH → Prop} (hd : 1 ≤ d)
    (hR : cB wdM (d - 1) mX8_isPin [.inr (.inr 0), .inl x1] h (fun h1 => inI x2 ∧ cB wdM (d - 1) mX8_isIn [.inr (.inl x2), .inr (.inl 0), .inr (.inl 4)] h1 (fun h2 => (inI (h2 1 4)) ∧ ((h2 1 4) ≤ 0 → cI wdM (d - 1) mX8_becomes [.inr (.inr 0), .inl (65 + x1), .inl x2] h2 (fun r4 h3 => Q r4 h3)) ∧ (0 < (h2 1 4) → Q (-3) h2)) (fun h2 => Q (-2) h2)) (fun h1 => Q (-1) h1)) :
    gI wdM d mX8_stitch 0 [some (.inr (.inr 0)), some (.inl x1), some (.inl x2)] h Q := by
  unfold gI
  refine x_aload_n (pc := 0) (show decode mX8_stitch.2.1 0 = .ok (.aload_n 0, 1) by decide +kernel) rfl rfl ?_
  refine x_iload_n (pc := 1) (show decode mX8_stitch.2.1 1 = .ok (.iload_n 1, 1) by decide +kernel) rfl rfl ?_
  refine x_callV (pc := 2) (As := [.inl x1]) (rest := []) (lk8_95 rfl) im_X8_isPin sl_X8_isPin rfl rfl rfl (Nat.le_of_ble_eq_true rfl) (Nat.le_of_ble_eq_true rfl) (show decode mX8_stitch.2.1 2 = .ok (.invokevirtual 95, 3) by decide +kernel) hd hR (fun r9 h1 hq => ?_)
  obtain ⟨r8, rfl, hq⟩ := hq
  rcases hq with ⟨rfl, hR⟩ | ⟨rfl, hR⟩
  · show xG _ _ _ 5 _ [.inl 1] _ _
    refine x_if_ne (pc := 5) (tgt := 10) (show decode mX8_stitch.2.1 5 = .ok (.ifCond .ne 5, 3) by decide +kernel) (by decide) (by unfold inI; decide) (fun _ => ?_) (fun hc => absurd hc (by decide))
    refine x_iload_n (pc := 10) (show decode mX8_stitch.2.1 10 = .ok (.iload_n 2, 1) by decide +kernel) rfl rfl ?_
    obtain ⟨hg, hR⟩ := hR
    refine x_i2l (pc := 11) (show decode mX8_stitch.2.1 11 = .ok (.i2l, 1) by decide +kernel) hg ?_
    refine x_lconst (pc := 12) (v := 0) (show decode mX8_stitch.2.1 12 = .ok (.lconst 0, 1) by decide +kernel) rfl ?_
    refine x_ldc2 (pc := 13) (n := 4) (tblG_m5 102 rfl rfl) rfl (show decode mX8_stitch.2.1 13 = .ok (.ldc2_w 89, 3) by decide +kernel) ?_
    refine x_callS (pc := 16) (As := [.inr (.inl x2), .inr (.inl 0), .inr (.inl 4)]) (rest := []) (lk8_79 rfl) sm_X8_isIn (Nat.le_of_ble_eq_true rfl) (Nat.le_of_ble_eq_true rfl) (show decode mX8_stitch.2.1 16 = .ok (.invokestatic 79, 3) by decide +kernel) hd hR (fun r9 h2 hq => ?_)
    obtain ⟨r8, rfl, hq⟩ := hq
    rcases hq with ⟨rfl, hR⟩ | ⟨rfl, hR⟩
    · show xG _ _ _ 19 _ [.inl 1] _ _
      refine x_if_ne (pc := 19) (tgt := 25) (show decode mX8_stitch.2.1 19 = .ok (.ifCond .ne 6, 3) by decide +kernel) (by decide) (by unfold inI; decide) (fun _ => ?_) (fun hc => absurd hc (by decide))
      refine x_aload_n (pc := 25) (show decode mX8_stitch.2.1 25 = .ok (.aload_n 0, 1) by decide +kernel) rfl rfl ?_
      refine x_getR (pc := 26) f8_11 rfl rfl (show decode mX8_stitch.2.1 26 = .ok (.getfield 11, 3) by decide +kernel) ?_
      refine x_iconst (pc := 29) (n := 4) (show decode mX8_stitch.2.1 29 = .ok (.iconst 4, 1) by decide +kernel) ?_
      refine x_iald (pc := 30) rfl (by decide) (by decide) (show decode mX8_stitch.2.1 30 = .ok (.iaload, 1) by decide +kernel) ?_
      obtain ⟨hg, hR⟩ := hR
      refine x_if_le (pc := 31) (tgt := 39) (show decode mX8_stitch.2.1 31 = .ok (.ifCond .le 8, 3) by decide +kernel) (by decide) hg (fun hc => ?_) (fun hc => ?_)
      · replace hR := hR.1 hc
        refine x_aload_n (pc := 39) (show decode mX8_stitch.2.1 39 = .ok (.aload_n 0, 1) by decide +kernel) rfl rfl ?_
        refine x_bipush (pc := 40) (n := 65) (show decode mX8_stitch.2.1 40 = .ok (.bipush 65, 2) by decide +kernel) rfl ?_
        refine x_iload_n (pc := 42) (show decode mX8_stitch.2.1 42 = .ok (.iload_n 1, 1) by decide +kernel) rfl rfl ?_
        refine x_iadd (pc := 43) (show decode mX8_stitch.2.1 43 = .ok (.iadd, 1) by decide +kernel) ?_
        refine x_iload_n (pc := 44) (show decode mX8_stitch.2.1 44 = .ok (.iload_n 2, 1) by decide +kernel) rfl rfl ?_
        refine x_callV (pc := 45) (As := [.inl (65 + x1), .inl x2]) (rest := []) (lk8_99 rfl) im_X8_becomes sl_X8_becomes rfl rfl rfl (Nat.le_of_ble_eq_true rfl) (Nat.le_of_ble_eq_true rfl) (show decode mX8_stitch.2.1 45 = .ok (.invokevirtual 99, 3) by decide +kernel) hd hR (fun r9 h3 hq => ?_)
        obtain ⟨r4, rfl, hR⟩ := hq
        show xG _ _ _ 48 _ [.inl r4] _ _
        exact x_iret (pc := 48) rfl (show decode mX8_stitch.2.1 48 = .ok (.ireturn, 1) by decide +kernel) ⟨_, rfl, hR⟩
      · replace hR := hR.2 hc
        refine x_bipush (pc := 34) (n := (-3)) (show decode mX8_stitch.2.1 34 = .ok (.bipush (-3), 2) by decide +kernel) rfl ?_
        refine x_goto (pc := 36) (tgt := 48) (show decode mX8_stitch.2.1 36 = .ok (.goto 12, 3) by decide +kernel) (by decide) ?_
        exact x_iret (pc := 48) rfl (show decode mX8_stitch.2.1 48 = .ok (.ireturn, 1) by decide +kernel) ⟨_, rfl, hR⟩
    · show xG _ _ _ 19 _ [.inl 0] _ _
      refine x_if_ne (pc := 19) (tgt := 25) (show decode mX8_stitch.2.1 19 = .ok (.ifCond .ne 6, 3) by decide +kernel) (by decide) (by unfold inI; decide) (fun hc => absurd hc (by decide)) (fun _ => ?_)
      refine x_bipush (pc := 22) (n := (-2)) (show decode mX8_stitch.2.1 22 = .ok (.bipush (-2), 2) by decide +kernel) rfl ?_
      exact x_iret (pc := 24) rfl (show decode mX8_stitch.2.1 24 = .ok (.ireturn, 1) by decide +kernel) ⟨_, rfl, hR⟩
  · show xG _ _ _ 5 _ [.inl 0] _ _
    refine x_if_ne (pc := 5) (tgt := 10) (show decode mX8_stitch.2.1 5 = .ok (.ifCond .ne 5, 3) by decide +kernel) (by decide) (by unfold inI; decide) (fun hc => absurd hc (by decide)) (fun _ => ?_)
    refine x_iconst (pc := 8) (n := (-1)) (show decode mX8_stitch.2.1 8 = .ok (.iconst (-1), 1) by decide +kernel) ?_
    exact x_iret (pc := 9) rfl (show decode mX8_stitch.2.1 9 = .ok (.ireturn, 1) by decide +kernel) ⟨_, rfl, hR⟩
set_option maxRecDepth 4000 in
theorem sg_X8_fill_0 {d : Nat} {x1 x2 : Int} {h : xH} {Q : Int → xH → Prop} (hd : 1 ≤ d)
    (hR : cB wdM (d - 1) mX8_isSlot [.inr (.inr 0), .inl x1] h (fun h1 => (inI (h1 1 4)) ∧ ((h1 1 4) ≤ 0 → (inI x2) ∧ (x2 = 0 → cI wdM (d - 1) mX8_becomes [.inr (.inr 0), .inl (125 + x1), .inl 0] h1 (fun r3 h2 => Q r3 h2)) ∧ (¬ x2 = 0 → cI wdM (d - 1) mX8_becomes [.inr (.inr 0), .inl (125 + x1), .inl 1] h1 (fun r5 h4 => Q r5 h4))) ∧ (0 < (h1 1 4) → Q (-3) h1)) (fun h1 => Q (-1) h1)) :
    gI wdM d mX8_fill 0 [some (.inr (.inr 0)), some (.inl x1), some (.inl x2)] h Q := by
  unfold gI
  refine x_aload_n (pc := 0) (show decode mX8_fill.2.1 0 = .ok (.aload_n 0, 1) by decide +kernel) rfl rfl ?_
  refine x_iload_n (pc := 1) (show decode mX8_fill.2.1 1 = .ok (.iload_n 1, 1) by decide +kernel) rfl rfl ?_
  refine x_callV (pc := 2) (As := [.inl x1]) (rest := []) (lk8_103 rfl) im_X8_isSlot sl_X8_isSlot rfl rfl rfl (Nat.le_of_ble_eq_true rfl) (Nat.le_of_ble_eq_true rfl) (show decode mX8_fill.2.1 2 = .ok (.invokevirtual 103, 3) by decide +kernel) hd hR (fun r9 h1 hq => ?_)
  obtain ⟨r8, rfl, hq⟩ := hq
  rcases hq with ⟨rfl, hR⟩ | ⟨rfl, hR⟩
  · show xG _ _ _ 5 _ [.inl 1] _ _
    refine x_if_ne (pc := 5) (tgt := 10) (show decode mX8_fill.2.1 5 = .ok (.ifCond .ne 5, 3) by decide +kernel) (by decide) (by unfold inI; decide) (fun _ => ?_) (fun hc => absurd hc (by decide))
    refine x_aload_n (pc := 10) (show decode mX8_fill.2.1 10 = .ok (.aload_n 0, 1) by decide +kernel) rfl rfl ?_
    refine x_getR (pc := 11) f8_11 rfl rfl (show decode mX8_fill.2.1 11 = .ok (.getfield 11, 3) by decide +kernel) ?_
    refine x_iconst (pc := 14) (n := 4) (show decode mX8_fill.2.1 14 = .ok (.iconst 4, 1) by decide +kernel) ?_
    refine x_iald (pc := 15) rfl (by decide) (by decide) (show decode mX8_fill.2.1 15 = .ok (.iaload, 1) by decide +kernel) ?_
    obtain ⟨hg, hR⟩ := hR
    refine x_if_le (pc := 16) (tgt := 24) (show decode mX8_fill.2.1 16 = .ok (.ifCond .le 8, 3) by decide +kernel) (by decide) hg (fun hc => ?_) (fun hc => ?_)
    · replace hR := hR.1 hc
      refine x_aload_n (pc := 24) (show decode mX8_fill.2.1 24 = .ok (.aload_n 0, 1) by decide +kernel) rfl rfl ?_
      refine x_bipush (pc := 25) (n := 125) (show decode mX8_fill.2.1 25 = .ok (.bipush 125, 2) by decide +kernel) rfl ?_
      refine x_iload_n (pc := 27) (show decode mX8_fill.2.1 27 = .ok (.iload_n 1, 1) by decide +kernel) rfl rfl ?_
      refine x_iadd (pc := 28) (show decode mX8_fill.2.1 28 = .ok (.iadd, 1) by decide +kernel) ?_
      refine x_iload_n (pc := 29) (show decode mX8_fill.2.1 29 = .ok (.iload_n 2, 1) by decide +kernel) rfl rfl ?_
      obtain ⟨hg, hR⟩ := hR
      refine x_if_eq (pc := 30) (tgt := 37) (show decode mX8_fill.2.1 30 = .ok (.ifCond .eq 7, 3) by decide +kernel) (by decide) hg (fun hc => ?_) (fun hc => ?_)
      · replace hR := hR.1 hc
        refine x_iconst (pc := 37) (n := 0) (show decode mX8_fill.2.1 37 = .ok (.iconst 0, 1) by decide +kernel) ?_
        refine x_callV (pc := 38) (As := [.inl (125 + x1), .inl 0]) (rest := []) (lk8_99 rfl) im_X8_becomes sl_X8_becomes rfl rfl rfl (Nat.le_of_ble_eq_true rfl) (Nat.le_of_ble_eq_true rfl) (show decode mX8_fill.2.1 38 = .ok (.invokevirtual 99, 3) by decide +kernel) hd hR (fun r9 h2 hq => ?_)
        obtain ⟨r3, rfl, hR⟩ := hq
        show xG _ _ _ 41 _ [.inl r3] _ _
        exact x_iret (pc := 41) rfl (show decode mX8_fill.2.1 41 = .ok (.ireturn, 1) by decide +kernel) ⟨_, rfl, hR⟩
      · replace hR := hR.2 hc
        refine x_iconst (pc := 33) (n := 1) (show decode mX8_fill.2.1 33 = .ok (.iconst 1, 1) by decide +kernel) ?_
        refine x_goto (pc := 34) (tgt := 38) (show decode mX8_fill.2.1 34 = .ok (.goto 4, 3) by decide +kernel) (by decide) ?_
        refine x_callV (pc := 38) (As := [.inl (125 + x1), .inl 1]) (rest := []) (lk8_99 rfl) im_X8_becomes sl_X8_becomes rfl rfl rfl (Nat.le_of_ble_eq_true rfl) (Nat.le_of_ble_eq_true rfl) (show decode mX8_fill.2.1 38 = .ok (.invokevirtual 99, 3) by decide +kernel) hd hR (fun r9 h4 hq => ?_)
        obtain ⟨r5, rfl, hR⟩ := hq
        show xG _ _ _ 41 _ [.inl r5] _ _
        exact x_iret (pc := 41) rfl (show decode mX8_fill.2.1 41 = .ok (.ireturn, 1) by decide +kernel) ⟨_, rfl, hR⟩
    · replace hR := hR.2 hc
      refine x_bipush (pc := 19) (n := (-3)) (show decode mX8_fill.2.1 19 = .ok (.bipush (-3), 2) by decide +kernel) rfl ?_
      refine x_goto (pc := 21) (tgt := 41) (show decode mX8_fill.2.1 21 = .ok (.goto 20, 3) by decide +kernel) (by decide) ?_
      exact x_iret (pc := 41) rfl (show decode mX8_fill.2.1 41 = .ok (.ireturn, 1) by decide +kernel) ⟨_, rfl, hR⟩
  · show xG _ _ _ 5 _ [.inl 0] _ _
    refine x_if_ne (pc := 5) (tgt := 10) (show decode mX8_fill.2.1 5 = .ok (.ifCond .ne 5, 3) by decide +kernel) (by decide) (by unfold inI; decide) (fun hc => absurd hc (by decide)) (fun _ => ?_)
    refine x_iconst (pc := 8) (n := (-1)) (show decode mX8_fill.2.1 8 = .ok (.iconst (-1), 1) by decide +kernel) ?_
    exact x_iret (pc := 9) rfl (show decode mX8_fill.2.1 9 = .ok (.ireturn, 1) by decide +kernel) ⟨_, rfl, hR⟩
set_option maxRecDepth 4000 in
theorem sg_X8_turn_0 {d : Nat} {x1 x2 : Int} {h : xH} {Q : Int → xH → Prop} (hd : 1 ≤ d)
    (hR : cB wdM (d - 1) mX8_isSlot [.inr (.inr 0), .inl x1] h (fun h1 => inI x2 ∧ cB wdM (d - 1) mX8_isIn [.inr (.inl x2), .inr (.inl 0), .inr (.inl 99)] h1 (fun h2 => (inI (h2 1 4)) ∧ ((h2 1 4) ≤ 0 → gI wdM d mX8_turn 47 [some (.inr (.inr 0)), none, none, some (.inl ((100 * x1) + x2)), some (.inl 0), none] h2 Q) ∧ (0 < (h2 1 4) → Q (-3) h2)) (fun h2 => Q (-2) h2)) (fun h1 => Q (-1) h1)) :
    gI wdM d mX8_turn 0 [some (.inr (.inr 0)), some (.inl x1), some (.inl x2), none, none, none] h Q := by
  unfold gI
  refine x_aload_n (pc := 0) (show decode mX8_turn.2.1 0 = .ok (.aload_n 0, 1) by decide +kernel) rfl rfl ?_
  refine x_iload_n (pc := 1) (show decode mX8_turn.2.1 1 = .ok (.iload_n 1, 1) by decide +kernel) rfl rfl ?_
  refine x_callV (pc := 2) (As := [.inl x1]) (rest := []) (lk8_103 rfl) im_X8_isSlot sl_X8_isSlot rfl rfl rfl (Nat.le_of_ble_eq_true rfl) (Nat.le_of_ble_eq_true rfl) (show decode mX8_turn.2.1 2 = .ok (.invokevirtual 103, 3) by decide +kernel) hd hR (fun r9 h1 hq => ?_)
  obtain ⟨r8, rfl, hq⟩ := hq
  rcases hq with ⟨rfl, hR⟩ | ⟨rfl, hR⟩
  · show xG _ _ _ 5 _ [.inl 1] _ _
    refine x_if_ne (pc := 5) (tgt := 10) (show decode mX8_turn.2.1 5 = .ok (.ifCond .ne 5, 3) by decide +kernel) (by decide) (by unfold inI; decide) (fun _ => ?_) (fun hc => absurd hc (by decide))
    refine x_iload_n (pc := 10) (show decode mX8_turn.2.1 10 = .ok (.iload_n 2, 1) by decide +kernel) rfl rfl ?_
    obtain ⟨hg, hR⟩ := hR
    refine x_i2l (pc := 11) (show decode mX8_turn.2.1 11 = .ok (.i2l, 1) by decide +kernel) hg ?_
    refine x_lconst (pc := 12) (v := 0) (show decode mX8_turn.2.1 12 = .ok (.lconst 0, 1) by decide +kernel) rfl ?_
    refine x_ldc2 (pc := 13) (n := 99) (tblG_m5 101 rfl rfl) rfl (show decode mX8_turn.2.1 13 = .ok (.ldc2_w 87, 3) by decide +kernel) ?_
    refine x_callS (pc := 16) (As := [.inr (.inl x2), .inr (.inl 0), .inr (.inl 99)]) (rest := []) (lk8_79 rfl) sm_X8_isIn (Nat.le_of_ble_eq_true rfl) (Nat.le_of_ble_eq_true rfl) (show decode mX8_turn.2.1 16 = .ok (.invokestatic 79, 3) by decide +kernel) hd hR (fun r9 h2 hq => ?_)
    obtain ⟨r8, rfl, hq⟩ := hq
    rcases hq with ⟨rfl, hR⟩ | ⟨rfl, hR⟩
    · show xG _ _ _ 19 _ [.inl 1] _ _
      refine x_if_ne (pc := 19) (tgt := 25) (show decode mX8_turn.2.1 19 = .ok (.ifCond .ne 6, 3) by decide +kernel) (by decide) (by unfold inI; decide) (fun _ => ?_) (fun hc => absurd hc (by decide))
      refine x_aload_n (pc := 25) (show decode mX8_turn.2.1 25 = .ok (.aload_n 0, 1) by decide +kernel) rfl rfl ?_
      refine x_getR (pc := 26) f8_11 rfl rfl (show decode mX8_turn.2.1 26 = .ok (.getfield 11, 3) by decide +kernel) ?_
      refine x_iconst (pc := 29) (n := 4) (show decode mX8_turn.2.1 29 = .ok (.iconst 4, 1) by decide +kernel) ?_
      refine x_iald (pc := 30) rfl (by decide) (by decide) (show decode mX8_turn.2.1 30 = .ok (.iaload, 1) by decide +kernel) ?_
      obtain ⟨hg, hR⟩ := hR
      refine x_if_le (pc := 31) (tgt := 37) (show decode mX8_turn.2.1 31 = .ok (.ifCond .le 6, 3) by decide +kernel) (by decide) hg (fun hc => ?_) (fun hc => ?_)
      · replace hR := hR.1 hc
        refine x_bipush (pc := 37) (n := 100) (show decode mX8_turn.2.1 37 = .ok (.bipush 100, 2) by decide +kernel) rfl ?_
        refine x_iload_n (pc := 39) (show decode mX8_turn.2.1 39 = .ok (.iload_n 1, 1) by decide +kernel) rfl rfl ?_
        refine x_imul (pc := 40) (show decode mX8_turn.2.1 40 = .ok (.imul, 1) by decide +kernel) ?_
        refine x_iload_n (pc := 41) (show decode mX8_turn.2.1 41 = .ok (.iload_n 2, 1) by decide +kernel) rfl rfl ?_
        refine x_iadd (pc := 42) (show decode mX8_turn.2.1 42 = .ok (.iadd, 1) by decide +kernel) ?_
        refine x_istore_n (pc := 43) (ls' := [some (.inr (.inr 0)), some (.inl x1), some (.inl x2), some (.inl ((100 * x1) + x2)), none, none]) (show decode mX8_turn.2.1 43 = .ok (.istore_n 3, 1) by decide +kernel) rfl (by decide) rfl ?_
        refine x_iconst (pc := 44) (n := 0) (show decode mX8_turn.2.1 44 = .ok (.iconst 0, 1) by decide +kernel) ?_
        refine x_istore (pc := 45) (ls' := [some (.inr (.inr 0)), some (.inl x1), some (.inl x2), some (.inl ((100 * x1) + x2)), some (.inl 0), none]) (show decode mX8_turn.2.1 45 = .ok (.istore 4, 2) by decide +kernel) (by decide) rfl ?_
        exact x_weak (xle_get (by repeat' constructor)) hR
      · replace hR := hR.2 hc
        refine x_bipush (pc := 34) (n := (-3)) (show decode mX8_turn.2.1 34 = .ok (.bipush (-3), 2) by decide +kernel) rfl ?_
        exact x_iret (pc := 36) rfl (show decode mX8_turn.2.1 36 = .ok (.ireturn, 1) by decide +kernel) ⟨_, rfl, hR⟩
    · show xG _ _ _ 19 _ [.inl 0] _ _
      refine x_if_ne (pc := 19) (tgt := 25) (show decode mX8_turn.2.1 19 = .ok (.ifCond .ne 6, 3) by decide +kernel) (by decide) (by unfold inI; decide) (fun hc => absurd hc (by decide)) (fun _ => ?_)
      refine x_bipush (pc := 22) (n := (-2)) (show decode mX8_turn.2.1 22 = .ok (.bipush (-2), 2) by decide +kernel) rfl ?_
      exact x_iret (pc := 24) rfl (show decode mX8_turn.2.1 24 = .ok (.ireturn, 1) by decide +kernel) ⟨_, rfl, hR⟩
  · show xG _ _ _ 5 _ [.inl 0] _ _
    refine x_if_ne (pc := 5) (tgt := 10) (show decode mX8_turn.2.1 5 = .ok (.ifCond .ne 5, 3) by decide +kernel) (by decide) (by unfold inI; decide) (fun hc => absurd hc (by decide)) (fun _ => ?_)
    refine x_iconst (pc := 8) (n := (-1)) (show decode mX8_turn.2.1 8 = .ok (.iconst (-1), 1) by decide +kernel) ?_
    exact x_iret (pc := 9) rfl (show decode mX8_turn.2.1 9 = .ok (.ireturn, 1) by decide +kernel) ⟨_, rfl, hR⟩
set_option maxRecDepth 4000 in
theorem sg_X8_turn_47 {d : Nat} {x3 x4 : Int} {h : xH} {Q : Int → xH → Prop}
    (hR : (inI x4 ∧ inI (h 1 2)) ∧ ((h 1 2) ≤ x4 → (inI (h 1 2)) ∧ (¬ (h 1 2) = 10 → (0 ≤ (137 + (h 1 2)) ∧ (137 + (h 1 2)) < 1705) ∧ Q (((xu h 1 (137 + (h 1 2)) x3) 1 2) + 1) (xu (xu h 1 (137 + (h 1 2)) x3) 1 2 (((xu h 1 (137 + (h 1 2)) x3) 1 2) + 1))) ∧ ((h 1 2) = 10 → Q (-4) h)) ∧ (x4 < (h 1 2) → (0 ≤ (137 + x4) ∧ (137 + x4) < 1705) ∧ (inI (h 1 (137 + x4)) ∧ inI x3) ∧ ((h 1 (137 + x4)) = x3 → gI wdM d mX8_turn 90 [some (.inr (.inr 0)), none, none, none, none, some (.inl x4)] (xu h 1 2 ((h 1 2) - 1)) Q) ∧ (¬ (h 1 (137 + x4)) = x3 → gI wdM d mX8_turn 47 [some (.inr (.inr 0)), none, none, some (.inl x3), some (.inl (x4 + 1)), none] h Q))) :
    gI wdM d mX8_turn 47 [some (.inr (.inr 0)), none, none, some (.inl x3), some (.inl x4), none] h Q := by
  unfold gI
  refine x_iload (pc := 47) (show decode mX8_turn.2.1 47 = .ok (.iload 4, 2) by decide +kernel) rfl ?_
  refine x_aload_n (pc := 49) (show decode mX8_turn.2.1 49 = .ok (.aload_n 0, 1) by decide +kernel) rfl rfl ?_
  refine x_getR (pc := 50) f8_11 rfl rfl (show decode mX8_turn.2.1 50 = .ok (.getfield 11, 3) by decide +kernel) ?_
  refine x_iconst (pc := 53) (n := 2) (show decode mX8_turn.2.1 53 = .ok (.iconst 2, 1) by decide +kernel) ?_
  refine x_iald (pc := 54) rfl (by decide) (by decide) (show decode mX8_turn.2.1 54 = .ok (.iaload, 1) by decide +kernel) ?_
  obtain ⟨hg, hR⟩ := hR
  refine x_icmp_ge (pc := 55) (tgt := 144) (show decode mX8_turn.2.1 55 = .ok (.if_icmp .ge 89, 3) by decide +kernel) (by decide) ⟨hg.1, hg.2⟩ (fun hc => ?_) (fun hc => ?_)
  · replace hR := hR.1 hc
    refine x_aload_n (pc := 144) (show decode mX8_turn.2.1 144 = .ok (.aload_n 0, 1) by decide +kernel) rfl rfl ?_
    refine x_getR (pc := 145) f8_11 rfl rfl (show decode mX8_turn.2.1 145 = .ok (.getfield 11, 3) by decide +kernel) ?_
    refine x_iconst (pc := 148) (n := 2) (show decode mX8_turn.2.1 148 = .ok (.iconst 2, 1) by decide +kernel) ?_
    refine x_iald (pc := 149) rfl (by decide) (by decide) (show decode mX8_turn.2.1 149 = .ok (.iaload, 1) by decide +kernel) ?_
    refine x_bipush (pc := 150) (n := 10) (show decode mX8_turn.2.1 150 = .ok (.bipush 10, 2) by decide +kernel) rfl ?_
    obtain ⟨hg, hR⟩ := hR
    refine x_icmp_ne (pc := 152) (tgt := 158) (show decode mX8_turn.2.1 152 = .ok (.if_icmp .ne 6, 3) by decide +kernel) (by decide) ⟨hg, (by unfold inI; decide)⟩ (fun hc => ?_) (fun hc => ?_)
    · replace hR := hR.1 hc
      refine x_aload_n (pc := 158) (show decode mX8_turn.2.1 158 = .ok (.aload_n 0, 1) by decide +kernel) rfl rfl ?_
      refine x_getR (pc := 159) f8_11 rfl rfl (show decode mX8_turn.2.1 159 = .ok (.getfield 11, 3) by decide +kernel) ?_
      refine x_sipush (pc := 162) (n := 137) (show decode mX8_turn.2.1 162 = .ok (.sipush 137, 3) by decide +kernel) rfl ?_
      refine x_aload_n (pc := 165) (show decode mX8_turn.2.1 165 = .ok (.aload_n 0, 1) by decide +kernel) rfl rfl ?_
      refine x_getR (pc := 166) f8_11 rfl rfl (show decode mX8_turn.2.1 166 = .ok (.getfield 11, 3) by decide +kernel) ?_
      refine x_iconst (pc := 169) (n := 2) (show decode mX8_turn.2.1 169 = .ok (.iconst 2, 1) by decide +kernel) ?_
      refine x_iald (pc := 170) rfl (by decide) (by decide) (show decode mX8_turn.2.1 170 = .ok (.iaload, 1) by decide +kernel) ?_
      refine x_iadd (pc := 171) (show decode mX8_turn.2.1 171 = .ok (.iadd, 1) by decide +kernel) ?_
      refine x_iload_n (pc := 172) (show decode mX8_turn.2.1 172 = .ok (.iload_n 3, 1) by decide +kernel) rfl rfl ?_
      obtain ⟨hg, hR⟩ := hR
      refine x_iast (pc := 173) rfl (by decide) hg (show decode mX8_turn.2.1 173 = .ok (.iastore, 1) by decide +kernel) ?_
      refine x_aload_n (pc := 174) (show decode mX8_turn.2.1 174 = .ok (.aload_n 0, 1) by decide +kernel) rfl rfl ?_
      refine x_getR (pc := 175) f8_11 rfl rfl (show decode mX8_turn.2.1 175 = .ok (.getfield 11, 3) by decide +kernel) ?_
      refine x_iconst (pc := 178) (n := 2) (show decode mX8_turn.2.1 178 = .ok (.iconst 2, 1) by decide +kernel) ?_
      refine x_dup2 (pc := 179) (show decode mX8_turn.2.1 179 = .ok (.dup2, 1) by decide +kernel) rfl rfl ?_
      refine x_iald (pc := 180) rfl (by decide) (by decide) (show decode mX8_turn.2.1 180 = .ok (.iaload, 1) by decide +kernel) ?_
      refine x_iconst (pc := 181) (n := 1) (show decode mX8_turn.2.1 181 = .ok (.iconst 1, 1) by decide +kernel) ?_
      refine x_iadd (pc := 182) (show decode mX8_turn.2.1 182 = .ok (.iadd, 1) by decide +kernel) ?_
      refine x_iast (pc := 183) rfl (by decide) (by decide) (show decode mX8_turn.2.1 183 = .ok (.iastore, 1) by decide +kernel) ?_
      refine x_aload_n (pc := 184) (show decode mX8_turn.2.1 184 = .ok (.aload_n 0, 1) by decide +kernel) rfl rfl ?_
      refine x_getR (pc := 185) f8_11 rfl rfl (show decode mX8_turn.2.1 185 = .ok (.getfield 11, 3) by decide +kernel) ?_
      refine x_iconst (pc := 188) (n := 2) (show decode mX8_turn.2.1 188 = .ok (.iconst 2, 1) by decide +kernel) ?_
      refine x_iald (pc := 189) rfl (by decide) (by decide) (show decode mX8_turn.2.1 189 = .ok (.iaload, 1) by decide +kernel) ?_
      exact x_iret (pc := 190) rfl (show decode mX8_turn.2.1 190 = .ok (.ireturn, 1) by decide +kernel) ⟨_, rfl, hR⟩
    · replace hR := hR.2 hc
      refine x_bipush (pc := 155) (n := (-4)) (show decode mX8_turn.2.1 155 = .ok (.bipush (-4), 2) by decide +kernel) rfl ?_
      exact x_iret (pc := 157) rfl (show decode mX8_turn.2.1 157 = .ok (.ireturn, 1) by decide +kernel) ⟨_, rfl, hR⟩
  · replace hR := hR.2 hc
    refine x_aload_n (pc := 58) (show decode mX8_turn.2.1 58 = .ok (.aload_n 0, 1) by decide +kernel) rfl rfl ?_
    refine x_getR (pc := 59) f8_11 rfl rfl (show decode mX8_turn.2.1 59 = .ok (.getfield 11, 3) by decide +kernel) ?_
    refine x_sipush (pc := 62) (n := 137) (show decode mX8_turn.2.1 62 = .ok (.sipush 137, 3) by decide +kernel) rfl ?_
    refine x_iload (pc := 65) (show decode mX8_turn.2.1 65 = .ok (.iload 4, 2) by decide +kernel) rfl ?_
    refine x_iadd (pc := 67) (show decode mX8_turn.2.1 67 = .ok (.iadd, 1) by decide +kernel) ?_
    obtain ⟨hg, hR⟩ := hR
    refine x_iald (pc := 68) rfl (by decide) hg (show decode mX8_turn.2.1 68 = .ok (.iaload, 1) by decide +kernel) ?_
    refine x_iload_n (pc := 69) (show decode mX8_turn.2.1 69 = .ok (.iload_n 3, 1) by decide +kernel) rfl rfl ?_
    obtain ⟨hg, hR⟩ := hR
    refine x_icmp_eq (pc := 70) (tgt := 76) (show decode mX8_turn.2.1 70 = .ok (.if_icmp .eq 6, 3) by decide +kernel) (by decide) ⟨hg.1, hg.2⟩ (fun hc => ?_) (fun hc => ?_)
    · replace hR := hR.1 hc
      refine x_aload_n (pc := 76) (show decode mX8_turn.2.1 76 = .ok (.aload_n 0, 1) by decide +kernel) rfl rfl ?_
      refine x_getR (pc := 77) f8_11 rfl rfl (show decode mX8_turn.2.1 77 = .ok (.getfield 11, 3) by decide +kernel) ?_
      refine x_iconst (pc := 80) (n := 2) (show decode mX8_turn.2.1 80 = .ok (.iconst 2, 1) by decide +kernel) ?_
      refine x_dup2 (pc := 81) (show decode mX8_turn.2.1 81 = .ok (.dup2, 1) by decide +kernel) rfl rfl ?_
      refine x_iald (pc := 82) rfl (by decide) (by decide) (show decode mX8_turn.2.1 82 = .ok (.iaload, 1) by decide +kernel) ?_
      refine x_iconst (pc := 83) (n := 1) (show decode mX8_turn.2.1 83 = .ok (.iconst 1, 1) by decide +kernel) ?_
      refine x_isub (pc := 84) (show decode mX8_turn.2.1 84 = .ok (.isub, 1) by decide +kernel) ?_
      refine x_iast (pc := 85) rfl (by decide) (by decide) (show decode mX8_turn.2.1 85 = .ok (.iastore, 1) by decide +kernel) ?_
      refine x_iload (pc := 86) (show decode mX8_turn.2.1 86 = .ok (.iload 4, 2) by decide +kernel) rfl ?_
      refine x_istore (pc := 88) (ls' := [some (.inr (.inr 0)), none, none, some (.inl x3), some (.inl x4), some (.inl x4)]) (show decode mX8_turn.2.1 88 = .ok (.istore 5, 2) by decide +kernel) (by decide) rfl ?_
      exact x_weak (xle_get (by repeat' constructor)) hR
    · replace hR := hR.2 hc
      refine x_goto (pc := 73) (tgt := 138) (show decode mX8_turn.2.1 73 = .ok (.goto 65, 3) by decide +kernel) (by decide) ?_
      refine x_iinc (pc := 138) (ls' := [some (.inr (.inr 0)), none, none, some (.inl x3), some (.inl (x4 + 1)), none]) (show decode mX8_turn.2.1 138 = .ok (.iinc 4 1, 3) by decide +kernel) (by decide) rfl rfl ?_
      refine x_goto (pc := 141) (tgt := 47) (show decode mX8_turn.2.1 141 = .ok (.goto (-94), 3) by decide +kernel) (by decide) ?_
      exact hR
set_option maxRecDepth 4000 in
theorem sg_X8_turn_90 {d : Nat} {x5 : Int} {h : xH} {Q : Int → xH → Prop}
    (hR : (inI x5 ∧ inI (h 1 2)) ∧ ((h 1 2) ≤ x5 → Q (h 1 2) h) ∧ (x5 < (h 1 2) → (0 ≤ ((137 + x5) + 1) ∧ ((137 + x5) + 1) < 1705) ∧ (0 ≤ (137 + x5) ∧ (137 + x5) < 1705) ∧ gI wdM d mX8_turn 90 [some (.inr (.inr 0)), none, none, none, none, some (.inl (x5 + 1))] (xu h 1 (137 + x5) (h 1 ((137 + x5) + 1))) Q)) :
    gI wdM d mX8_turn 90 [some (.inr (.inr 0)), none, none, none, none, some (.inl x5)] h Q := by
  unfold gI
  refine x_iload (pc := 90) (show decode mX8_turn.2.1 90 = .ok (.iload 5, 2) by decide +kernel) rfl ?_
  refine x_aload_n (pc := 92) (show decode mX8_turn.2.1 92 = .ok (.aload_n 0, 1) by decide +kernel) rfl rfl ?_
  refine x_getR (pc := 93) f8_11 rfl rfl (show decode mX8_turn.2.1 93 = .ok (.getfield 11, 3) by decide +kernel) ?_
  refine x_iconst (pc := 96) (n := 2) (show decode mX8_turn.2.1 96 = .ok (.iconst 2, 1) by decide +kernel) ?_
  refine x_iald (pc := 97) rfl (by decide) (by decide) (show decode mX8_turn.2.1 97 = .ok (.iaload, 1) by decide +kernel) ?_
  obtain ⟨hg, hR⟩ := hR
  refine x_icmp_ge (pc := 98) (tgt := 131) (show decode mX8_turn.2.1 98 = .ok (.if_icmp .ge 33, 3) by decide +kernel) (by decide) ⟨hg.1, hg.2⟩ (fun hc => ?_) (fun hc => ?_)
  · replace hR := hR.1 hc
    refine x_aload_n (pc := 131) (show decode mX8_turn.2.1 131 = .ok (.aload_n 0, 1) by decide +kernel) rfl rfl ?_
    refine x_getR (pc := 132) f8_11 rfl rfl (show decode mX8_turn.2.1 132 = .ok (.getfield 11, 3) by decide +kernel) ?_
    refine x_iconst (pc := 135) (n := 2) (show decode mX8_turn.2.1 135 = .ok (.iconst 2, 1) by decide +kernel) ?_
    refine x_iald (pc := 136) rfl (by decide) (by decide) (show decode mX8_turn.2.1 136 = .ok (.iaload, 1) by decide +kernel) ?_
    exact x_iret (pc := 137) rfl (show decode mX8_turn.2.1 137 = .ok (.ireturn, 1) by decide +kernel) ⟨_, rfl, hR⟩
  · replace hR := hR.2 hc
    refine x_aload_n (pc := 101) (show decode mX8_turn.2.1 101 = .ok (.aload_n 0, 1) by decide +kernel) rfl rfl ?_
    refine x_getR (pc := 102) f8_11 rfl rfl (show decode mX8_turn.2.1 102 = .ok (.getfield 11, 3) by decide +kernel) ?_
    refine x_sipush (pc := 105) (n := 137) (show decode mX8_turn.2.1 105 = .ok (.sipush 137, 3) by decide +kernel) rfl ?_
    refine x_iload (pc := 108) (show decode mX8_turn.2.1 108 = .ok (.iload 5, 2) by decide +kernel) rfl ?_
    refine x_iadd (pc := 110) (show decode mX8_turn.2.1 110 = .ok (.iadd, 1) by decide +kernel) ?_
    refine x_aload_n (pc := 111) (show decode mX8_turn.2.1 111 = .ok (.aload_n 0, 1) by decide +kernel) rfl rfl ?_
    refine x_getR (pc := 112) f8_11 rfl rfl (show decode mX8_turn.2.1 112 = .ok (.getfield 11, 3) by decide +kernel) ?_
    refine x_sipush (pc := 115) (n := 137) (show decode mX8_turn.2.1 115 = .ok (.sipush 137, 3) by decide +kernel) rfl ?_
    refine x_iload (pc := 118) (show decode mX8_turn.2.1 118 = .ok (.iload 5, 2) by decide +kernel) rfl ?_
    refine x_iadd (pc := 120) (show decode mX8_turn.2.1 120 = .ok (.iadd, 1) by decide +kernel) ?_
    refine x_iconst (pc := 121) (n := 1) (show decode mX8_turn.2.1 121 = .ok (.iconst 1, 1) by decide +kernel) ?_
    refine x_iadd (pc := 122) (show decode mX8_turn.2.1 122 = .ok (.iadd, 1) by decide +kernel) ?_
    obtain ⟨hg, hR⟩ := hR
    refine x_iald (pc := 123) rfl (by decide) hg (show decode mX8_turn.2.1 123 = .ok (.iaload, 1) by decide +kernel) ?_
    obtain ⟨hg, hR⟩ := hR
    refine x_iast (pc := 124) rfl (by decide) hg (show decode mX8_turn.2.1 124 = .ok (.iastore, 1) by decide +kernel) ?_
    refine x_iinc (pc := 125) (ls' := [some (.inr (.inr 0)), none, none, none, none, some (.inl (x5 + 1))]) (show decode mX8_turn.2.1 125 = .ok (.iinc 5 1, 3) by decide +kernel) (by decide) rfl rfl ?_
    refine x_goto (pc := 128) (tgt := 90) (show decode mX8_turn.2.1 128 = .ok (.goto (-38), 3) by decide +kernel) (by decide) ?_
    exact hR
set_option maxRecDepth 4000 in
theorem sg_X8_isFilled_0 {d : Nat} {x1 x2 : Int} {h : xH} {Q : Int → xH → Prop}
    (hR : (0 ≤ (125 + x1) ∧ (125 + x1) < 1705) ∧ (inI (h 1 (125 + x1))) ∧ (¬ (h 1 (125 + x1)) = 1 → gI wdM d mX8_isFilled 22 [some (.inr (.inr 0)), some (.inl x1), some (.inl x2), some (.inl 0), some (.inl 0)] h Q) ∧ ((h 1 (125 + x1)) = 1 → gI wdM d mX8_isFilled 22 [some (.inr (.inr 0)), some (.inl x1), some (.inl x2), some (.inl 1), some (.inl 0)] h Q)) :
    gI wdM d mX8_isFilled 0 [some (.inr (.inr 0)), some (.inl x1), some (.inl x2), none, none] h Q := by
  unfold gI
  refine x_aload_n (pc := 0) (show decode mX8_isFilled.2.1 0 = .ok (.aload_n 0, 1) by decide +kernel) rfl rfl ?_
  refine x_getR (pc := 1) f8_11 rfl rfl (show decode mX8_isFilled.2.1 1 = .ok (.getfield 11, 3) by decide +kernel) ?_
  refine x_bipush (pc := 4) (n := 125) (show decode mX8_isFilled.2.1 4 = .ok (.bipush 125, 2) by decide +kernel) rfl ?_
  refine x_iload_n (pc := 6) (show decode mX8_isFilled.2.1 6 = .ok (.iload_n 1, 1) by decide +kernel) rfl rfl ?_
  refine x_iadd (pc := 7) (show decode mX8_isFilled.2.1 7 = .ok (.iadd, 1) by decide +kernel) ?_
  obtain ⟨hg, hR⟩ := hR
  refine x_iald (pc := 8) rfl (by decide) hg (show decode mX8_isFilled.2.1 8 = .ok (.iaload, 1) by decide +kernel) ?_
  refine x_iconst (pc := 9) (n := 1) (show decode mX8_isFilled.2.1 9 = .ok (.iconst 1, 1) by decide +kernel) ?_
  obtain ⟨hg, hR⟩ := hR
  refine x_icmp_ne (pc := 10) (tgt := 17) (show decode mX8_isFilled.2.1 10 = .ok (.if_icmp .ne 7, 3) by decide +kernel) (by decide) ⟨hg, (by unfold inI; decide)⟩ (fun hc => ?_) (fun hc => ?_)
  · replace hR := hR.1 hc
    refine x_iconst (pc := 17) (n := 0) (show decode mX8_isFilled.2.1 17 = .ok (.iconst 0, 1) by decide +kernel) ?_
    refine x_istore_n (pc := 18) (ls' := [some (.inr (.inr 0)), some (.inl x1), some (.inl x2), some (.inl 0), none]) (show decode mX8_isFilled.2.1 18 = .ok (.istore_n 3, 1) by decide +kernel) rfl (by decide) rfl ?_
    refine x_iconst (pc := 19) (n := 0) (show decode mX8_isFilled.2.1 19 = .ok (.iconst 0, 1) by decide +kernel) ?_
    refine x_istore (pc := 20) (ls' := [some (.inr (.inr 0)), some (.inl x1), some (.inl x2), some (.inl 0), some (.inl 0)]) (show decode mX8_isFilled.2.1 20 = .ok (.istore 4, 2) by decide +kernel) (by decide) rfl ?_
    exact hR
  · replace hR := hR.2 hc
    refine x_iconst (pc := 13) (n := 1) (show decode mX8_isFilled.2.1 13 = .ok (.iconst 1, 1) by decide +kernel) ?_
    refine x_goto (pc := 14) (tgt := 18) (show decode mX8_isFilled.2.1 14 = .ok (.goto 4, 3) by decide +kernel) (by decide) ?_
    refine x_istore_n (pc := 18) (ls' := [some (.inr (.inr 0)), some (.inl x1), some (.inl x2), some (.inl 1), none]) (show decode mX8_isFilled.2.1 18 = .ok (.istore_n 3, 1) by decide +kernel) rfl (by decide) rfl ?_
    refine x_iconst (pc := 19) (n := 0) (show decode mX8_isFilled.2.1 19 = .ok (.iconst 0, 1) by decide +kernel) ?_
    refine x_istore (pc := 20) (ls' := [some (.inr (.inr 0)), some (.inl x1), some (.inl x2), some (.inl 1), some (.inl 0)]) (show decode mX8_isFilled.2.1 20 = .ok (.istore 4, 2) by decide +kernel) (by decide) rfl ?_
    exact hR
set_option maxRecDepth 4000 in
theorem sg_X8_isFilled_22 {d : Nat} {x1 x2 x3 x4 : Int} {h : xH} {Q : Int → xH → Prop}
    (hR : (inI x4 ∧ inI (h 1 2)) ∧ ((h 1 2) ≤ x4 → (x3 = 0 ∨ x3 = 1) ∧ Q x3 h) ∧ (x4 < (h 1 2) → (0 ≤ (137 + x4) ∧ (137 + x4) < 1705) ∧ (0 ≤ (h 1 (137 + x4)) ∧ inI (h 1 (137 + x4))) ∧ (inI ((h 1 (137 + x4)) / 100) ∧ inI x1) ∧ (¬ ((h 1 (137 + x4)) / 100) = x1 → gI wdM d mX8_isFilled 22 [some (.inr (.inr 0)), some (.inl x1), some (.inl x2), some (.inl (xxorI x3 0)), some (.inl (x4 + 1))] h Q) ∧ (((h 1 (137 + x4)) / 100) = x1 → (0 ≤ (137 + x4) ∧ (137 + x4) < 1705) ∧ (0 ≤ (h 1 (137 + x4)) ∧ inI (h 1 (137 + x4))) ∧ (inI ((h 1 (137 + x4)) % 100) ∧ inI x2) ∧ (x2 < ((h 1 (137 + x4)) % 100) → gI wdM d mX8_isFilled 22 [some (.inr (.inr 0)), some (.inl x1), some (.inl x2), some (.inl (xxorI x3 0)), some (.inl (x4 + 1))] h Q) ∧ (((h 1 (137 + x4)) % 100) ≤ x2 → gI wdM d mX8_isFilled 22 [some (.inr (.inr 0)), some (.inl x1), some (.inl x2), some (.inl (xxorI x3 1)), some (.inl (x4 + 1))] h Q)))) :
    gI wdM d mX8_isFilled 22 [some (.inr (.inr 0)), some (.inl x1), some (.inl x2), some (.inl x3), some (.inl x4)] h Q := by
  unfold gI
  refine x_iload (pc := 22) (show decode mX8_isFilled.2.1 22 = .ok (.iload 4, 2) by decide +kernel) rfl ?_
  refine x_aload_n (pc := 24) (show decode mX8_isFilled.2.1 24 = .ok (.aload_n 0, 1) by decide +kernel) rfl rfl ?_
  refine x_getR (pc := 25) f8_11 rfl rfl (show decode mX8_isFilled.2.1 25 = .ok (.getfield 11, 3) by decide +kernel) ?_
  refine x_iconst (pc := 28) (n := 2) (show decode mX8_isFilled.2.1 28 = .ok (.iconst 2, 1) by decide +kernel) ?_
  refine x_iald (pc := 29) rfl (by decide) (by decide) (show decode mX8_isFilled.2.1 29 = .ok (.iaload, 1) by decide +kernel) ?_
  obtain ⟨hg, hR⟩ := hR
  refine x_icmp_ge (pc := 30) (tgt := 83) (show decode mX8_isFilled.2.1 30 = .ok (.if_icmp .ge 53, 3) by decide +kernel) (by decide) ⟨hg.1, hg.2⟩ (fun hc => ?_) (fun hc => ?_)
  · replace hR := hR.1 hc
    refine x_iload_n (pc := 83) (show decode mX8_isFilled.2.1 83 = .ok (.iload_n 3, 1) by decide +kernel) rfl rfl ?_
    exact x_zret (pc := 84) rfl (show decode mX8_isFilled.2.1 84 = .ok (.ireturn, 1) by decide +kernel) hR.1 ⟨_, rfl, hR.2⟩
  · replace hR := hR.2 hc
    refine x_iload_n (pc := 33) (show decode mX8_isFilled.2.1 33 = .ok (.iload_n 3, 1) by decide +kernel) rfl rfl ?_
    refine x_aload_n (pc := 34) (show decode mX8_isFilled.2.1 34 = .ok (.aload_n 0, 1) by decide +kernel) rfl rfl ?_
    refine x_getR (pc := 35) f8_11 rfl rfl (show decode mX8_isFilled.2.1 35 = .ok (.getfield 11, 3) by decide +kernel) ?_
    refine x_sipush (pc := 38) (n := 137) (show decode mX8_isFilled.2.1 38 = .ok (.sipush 137, 3) by decide +kernel) rfl ?_
    refine x_iload (pc := 41) (show decode mX8_isFilled.2.1 41 = .ok (.iload 4, 2) by decide +kernel) rfl ?_
    refine x_iadd (pc := 43) (show decode mX8_isFilled.2.1 43 = .ok (.iadd, 1) by decide +kernel) ?_
    obtain ⟨hg, hR⟩ := hR
    refine x_iald (pc := 44) rfl (by decide) hg (show decode mX8_isFilled.2.1 44 = .ok (.iaload, 1) by decide +kernel) ?_
    refine x_bipush (pc := 45) (n := 100) (show decode mX8_isFilled.2.1 45 = .ok (.bipush 100, 2) by decide +kernel) rfl ?_
    obtain ⟨hg, hR⟩ := hR
    refine x_idiv (pc := 47) (show decode mX8_isFilled.2.1 47 = .ok (.idiv, 1) by decide +kernel) ⟨hg, by decide, by unfold inI; decide⟩ ?_
    refine x_iload_n (pc := 48) (show decode mX8_isFilled.2.1 48 = .ok (.iload_n 1, 1) by decide +kernel) rfl rfl ?_
    obtain ⟨hg, hR⟩ := hR
    refine x_icmp_ne (pc := 49) (tgt := 74) (show decode mX8_isFilled.2.1 49 = .ok (.if_icmp .ne 25, 3) by decide +kernel) (by decide) ⟨hg.1, hg.2⟩ (fun hc => ?_) (fun hc => ?_)
    · replace hR := hR.1 hc
      refine x_iconst (pc := 74) (n := 0) (show decode mX8_isFilled.2.1 74 = .ok (.iconst 0, 1) by decide +kernel) ?_
      refine x_ixor (pc := 75) (show decode mX8_isFilled.2.1 75 = .ok (.ixor, 1) by decide +kernel) ?_
      refine x_istore_n (pc := 76) (ls' := [some (.inr (.inr 0)), some (.inl x1), some (.inl x2), some (.inl (xxorI x3 0)), some (.inl x4)]) (show decode mX8_isFilled.2.1 76 = .ok (.istore_n 3, 1) by decide +kernel) rfl (by decide) rfl ?_
      refine x_iinc (pc := 77) (ls' := [some (.inr (.inr 0)), some (.inl x1), some (.inl x2), some (.inl (xxorI x3 0)), some (.inl (x4 + 1))]) (show decode mX8_isFilled.2.1 77 = .ok (.iinc 4 1, 3) by decide +kernel) (by decide) rfl rfl ?_
      refine x_goto (pc := 80) (tgt := 22) (show decode mX8_isFilled.2.1 80 = .ok (.goto (-58), 3) by decide +kernel) (by decide) ?_
      exact hR
    · replace hR := hR.2 hc
      refine x_aload_n (pc := 52) (show decode mX8_isFilled.2.1 52 = .ok (.aload_n 0, 1) by decide +kernel) rfl rfl ?_
      refine x_getR (pc := 53) f8_11 rfl rfl (show decode mX8_isFilled.2.1 53 = .ok (.getfield 11, 3) by decide +kernel) ?_
      refine x_sipush (pc := 56) (n := 137) (show decode mX8_isFilled.2.1 56 = .ok (.sipush 137, 3) by decide +kernel) rfl ?_
      refine x_iload (pc := 59) (show decode mX8_isFilled.2.1 59 = .ok (.iload 4, 2) by decide +kernel) rfl ?_
      refine x_iadd (pc := 61) (show decode mX8_isFilled.2.1 61 = .ok (.iadd, 1) by decide +kernel) ?_
      obtain ⟨hg, hR⟩ := hR
      refine x_iald (pc := 62) rfl (by decide) hg (show decode mX8_isFilled.2.1 62 = .ok (.iaload, 1) by decide +kernel) ?_
      refine x_bipush (pc := 63) (n := 100) (show decode mX8_isFilled.2.1 63 = .ok (.bipush 100, 2) by decide +kernel) rfl ?_
      obtain ⟨hg, hR⟩ := hR
      refine x_irem (pc := 65) (show decode mX8_isFilled.2.1 65 = .ok (.irem, 1) by decide +kernel) ⟨hg, by decide, by unfold inI; decide⟩ ?_
      refine x_iload_n (pc := 66) (show decode mX8_isFilled.2.1 66 = .ok (.iload_n 2, 1) by decide +kernel) rfl rfl ?_
      obtain ⟨hg, hR⟩ := hR
      refine x_icmp_gt (pc := 67) (tgt := 74) (show decode mX8_isFilled.2.1 67 = .ok (.if_icmp .gt 7, 3) by decide +kernel) (by decide) ⟨hg.1, hg.2⟩ (fun hc => ?_) (fun hc => ?_)
      · replace hR := hR.1 hc
        refine x_iconst (pc := 74) (n := 0) (show decode mX8_isFilled.2.1 74 = .ok (.iconst 0, 1) by decide +kernel) ?_
        refine x_ixor (pc := 75) (show decode mX8_isFilled.2.1 75 = .ok (.ixor, 1) by decide +kernel) ?_
        refine x_istore_n (pc := 76) (ls' := [some (.inr (.inr 0)), some (.inl x1), some (.inl x2), some (.inl (xxorI x3 0)), some (.inl x4)]) (show decode mX8_isFilled.2.1 76 = .ok (.istore_n 3, 1) by decide +kernel) rfl (by decide) rfl ?_
        refine x_iinc (pc := 77) (ls' := [some (.inr (.inr 0)), some (.inl x1), some (.inl x2), some (.inl (xxorI x3 0)), some (.inl (x4 + 1))]) (show decode mX8_isFilled.2.1 77 = .ok (.iinc 4 1, 3) by decide +kernel) (by decide) rfl rfl ?_
        refine x_goto (pc := 80) (tgt := 22) (show decode mX8_isFilled.2.1 80 = .ok (.goto (-58), 3) by decide +kernel) (by decide) ?_
        exact hR
      · replace hR := hR.2 hc
        refine x_iconst (pc := 70) (n := 1) (show decode mX8_isFilled.2.1 70 = .ok (.iconst 1, 1) by decide +kernel) ?_
        refine x_goto (pc := 71) (tgt := 75) (show decode mX8_isFilled.2.1 71 = .ok (.goto 4, 3) by decide +kernel) (by decide) ?_
        refine x_ixor (pc := 75) (show decode mX8_isFilled.2.1 75 = .ok (.ixor, 1) by decide +kernel) ?_
        refine x_istore_n (pc := 76) (ls' := [some (.inr (.inr 0)), some (.inl x1), some (.inl x2), some (.inl (xxorI x3 1)), some (.inl x4)]) (show decode mX8_isFilled.2.1 76 = .ok (.istore_n 3, 1) by decide +kernel) rfl (by decide) rfl ?_
        refine x_iinc (pc := 77) (ls' := [some (.inr (.inr 0)), some (.inl x1), some (.inl x2), some (.inl (xxorI x3 1)), some (.inl (x4 + 1))]) (show decode mX8_isFilled.2.1 77 = .ok (.iinc 4 1, 3) by decide +kernel) (by decide) rfl rfl ?_
        refine x_goto (pc := 80) (tgt := 22) (show decode mX8_isFilled.2.1 80 = .ok (.goto (-58), 3) by decide +kernel) (by decide) ?_
        exact hR
set_option maxRecDepth 4000 in
theorem sg_X8_filled_0 {d : Nat} {x1 x2 : Int} {h : xH} {Q : Int → xH → Prop} (hd : 1 ≤ d)
    (hR : cB wdM (d - 1) mX8_isSlot [.inr (.inr 0), .inl x1] h (fun h1 => inI x2 ∧ cB wdM (d - 1) mX8_isIn [.inr (.inl x2), .inr (.inl 0), .inr (.inl 99)] h1 (fun h2 => cB wdM (d - 1) mX8_isFilled [.inr (.inr 0), .inl x1, .inl x2] h2 (fun h3 => Q 1 h3) (fun h3 => Q 0 h3)) (fun h2 => Q (-2) h2)) (fun h1 => Q (-1) h1)) :
    gI wdM d mX8_filled 0 [some (.inr (.inr 0)), some (.inl x1), some (.inl x2)] h Q := by
  unfold gI
  refine x_aload_n (pc := 0) (show decode mX8_filled.2.1 0 = .ok (.aload_n 0, 1) by decide +kernel) rfl rfl ?_
  refine x_iload_n (pc := 1) (show decode mX8_filled.2.1 1 = .ok (.iload_n 1, 1) by decide +kernel) rfl rfl ?_
  refine x_callV (pc := 2) (As := [.inl x1]) (rest := []) (lk8_103 rfl) im_X8_isSlot sl_X8_isSlot rfl rfl rfl (Nat.le_of_ble_eq_true rfl) (Nat.le_of_ble_eq_true rfl) (show decode mX8_filled.2.1 2 = .ok (.invokevirtual 103, 3) by decide +kernel) hd hR (fun r9 h1 hq => ?_)
  obtain ⟨r8, rfl, hq⟩ := hq
  rcases hq with ⟨rfl, hR⟩ | ⟨rfl, hR⟩
  · show xG _ _ _ 5 _ [.inl 1] _ _
    refine x_if_ne (pc := 5) (tgt := 10) (show decode mX8_filled.2.1 5 = .ok (.ifCond .ne 5, 3) by decide +kernel) (by decide) (by unfold inI; decide) (fun _ => ?_) (fun hc => absurd hc (by decide))
    refine x_iload_n (pc := 10) (show decode mX8_filled.2.1 10 = .ok (.iload_n 2, 1) by decide +kernel) rfl rfl ?_
    obtain ⟨hg, hR⟩ := hR
    refine x_i2l (pc := 11) (show decode mX8_filled.2.1 11 = .ok (.i2l, 1) by decide +kernel) hg ?_
    refine x_lconst (pc := 12) (v := 0) (show decode mX8_filled.2.1 12 = .ok (.lconst 0, 1) by decide +kernel) rfl ?_
    refine x_ldc2 (pc := 13) (n := 99) (tblG_m5 101 rfl rfl) rfl (show decode mX8_filled.2.1 13 = .ok (.ldc2_w 87, 3) by decide +kernel) ?_
    refine x_callS (pc := 16) (As := [.inr (.inl x2), .inr (.inl 0), .inr (.inl 99)]) (rest := []) (lk8_79 rfl) sm_X8_isIn (Nat.le_of_ble_eq_true rfl) (Nat.le_of_ble_eq_true rfl) (show decode mX8_filled.2.1 16 = .ok (.invokestatic 79, 3) by decide +kernel) hd hR (fun r9 h2 hq => ?_)
    obtain ⟨r8, rfl, hq⟩ := hq
    rcases hq with ⟨rfl, hR⟩ | ⟨rfl, hR⟩
    · show xG _ _ _ 19 _ [.inl 1] _ _
      refine x_if_ne (pc := 19) (tgt := 25) (show decode mX8_filled.2.1 19 = .ok (.ifCond .ne 6, 3) by decide +kernel) (by decide) (by unfold inI; decide) (fun _ => ?_) (fun hc => absurd hc (by decide))
      refine x_aload_n (pc := 25) (show decode mX8_filled.2.1 25 = .ok (.aload_n 0, 1) by decide +kernel) rfl rfl ?_
      refine x_iload_n (pc := 26) (show decode mX8_filled.2.1 26 = .ok (.iload_n 1, 1) by decide +kernel) rfl rfl ?_
      refine x_iload_n (pc := 27) (show decode mX8_filled.2.1 27 = .ok (.iload_n 2, 1) by decide +kernel) rfl rfl ?_
      refine x_callV (pc := 28) (As := [.inl x1, .inl x2]) (rest := []) (lk8_106 rfl) im_X8_isFilled sl_X8_isFilled rfl rfl rfl (Nat.le_of_ble_eq_true rfl) (Nat.le_of_ble_eq_true rfl) (show decode mX8_filled.2.1 28 = .ok (.invokevirtual 106, 3) by decide +kernel) hd hR (fun r9 h3 hq => ?_)
      obtain ⟨r8, rfl, hq⟩ := hq
      rcases hq with ⟨rfl, hR⟩ | ⟨rfl, hR⟩
      · show xG _ _ _ 31 _ [.inl 1] _ _
        refine x_if_eq (pc := 31) (tgt := 38) (show decode mX8_filled.2.1 31 = .ok (.ifCond .eq 7, 3) by decide +kernel) (by decide) (by unfold inI; decide) (fun hc => absurd hc (by decide)) (fun _ => ?_)
        refine x_iconst (pc := 34) (n := 1) (show decode mX8_filled.2.1 34 = .ok (.iconst 1, 1) by decide +kernel) ?_
        refine x_goto (pc := 35) (tgt := 39) (show decode mX8_filled.2.1 35 = .ok (.goto 4, 3) by decide +kernel) (by decide) ?_
        exact x_iret (pc := 39) rfl (show decode mX8_filled.2.1 39 = .ok (.ireturn, 1) by decide +kernel) ⟨_, rfl, hR⟩
      · show xG _ _ _ 31 _ [.inl 0] _ _
        refine x_if_eq (pc := 31) (tgt := 38) (show decode mX8_filled.2.1 31 = .ok (.ifCond .eq 7, 3) by decide +kernel) (by decide) (by unfold inI; decide) (fun _ => ?_) (fun hc => absurd hc (by decide))
        refine x_iconst (pc := 38) (n := 0) (show decode mX8_filled.2.1 38 = .ok (.iconst 0, 1) by decide +kernel) ?_
        exact x_iret (pc := 39) rfl (show decode mX8_filled.2.1 39 = .ok (.ireturn, 1) by decide +kernel) ⟨_, rfl, hR⟩
    · show xG _ _ _ 19 _ [.inl 0] _ _
      refine x_if_ne (pc := 19) (tgt := 25) (show decode mX8_filled.2.1 19 = .ok (.ifCond .ne 6, 3) by decide +kernel) (by decide) (by unfold inI; decide) (fun hc => absurd hc (by decide)) (fun _ => ?_)
      refine x_bipush (pc := 22) (n := (-2)) (show decode mX8_filled.2.1 22 = .ok (.bipush (-2), 2) by decide +kernel) rfl ?_
      exact x_iret (pc := 24) rfl (show decode mX8_filled.2.1 24 = .ok (.ireturn, 1) by decide +kernel) ⟨_, rfl, hR⟩
  · show xG _ _ _ 5 _ [.inl 0] _ _
    refine x_if_ne (pc := 5) (tgt := 10) (show decode mX8_filled.2.1 5 = .ok (.ifCond .ne 5, 3) by decide +kernel) (by decide) (by unfold inI; decide) (fun hc => absurd hc (by decide)) (fun _ => ?_)
    refine x_iconst (pc := 8) (n := (-1)) (show decode mX8_filled.2.1 8 = .ok (.iconst (-1), 1) by decide +kernel) ?_
    exact x_iret (pc := 9) rfl (show decode mX8_filled.2.1 9 = .ok (.ireturn, 1) by decide +kernel) ⟨_, rfl, hR⟩
set_option maxRecDepth 4000 in
theorem sg_X8_mirror_0 {d : Nat} {h : xH} {Q : Int → xH → Prop}
    (hR : (inI (h 1 4)) ∧ ((h 1 4) ≤ 0 → gI wdM d mX8_mirror 14 [some (.inr (.inr 0)), some (.inl 0), none] h Q) ∧ (0 < (h 1 4) → Q (-3) h)) :
    gI wdM d mX8_mirror 0 [some (.inr (.inr 0)), none, none] h Q := by
  unfold gI
  refine x_aload_n (pc := 0) (show decode mX8_mirror.2.1 0 = .ok (.aload_n 0, 1) by decide +kernel) rfl rfl ?_
  refine x_getR (pc := 1) f8_11 rfl rfl (show decode mX8_mirror.2.1 1 = .ok (.getfield 11, 3) by decide +kernel) ?_
  refine x_iconst (pc := 4) (n := 4) (show decode mX8_mirror.2.1 4 = .ok (.iconst 4, 1) by decide +kernel) ?_
  refine x_iald (pc := 5) rfl (by decide) (by decide) (show decode mX8_mirror.2.1 5 = .ok (.iaload, 1) by decide +kernel) ?_
  obtain ⟨hg, hR⟩ := hR
  refine x_if_le (pc := 6) (tgt := 12) (show decode mX8_mirror.2.1 6 = .ok (.ifCond .le 6, 3) by decide +kernel) (by decide) hg (fun hc => ?_) (fun hc => ?_)
  · replace hR := hR.1 hc
    refine x_iconst (pc := 12) (n := 0) (show decode mX8_mirror.2.1 12 = .ok (.iconst 0, 1) by decide +kernel) ?_
    refine x_istore_n (pc := 13) (ls' := [some (.inr (.inr 0)), some (.inl 0), none]) (show decode mX8_mirror.2.1 13 = .ok (.istore_n 1, 1) by decide +kernel) rfl (by decide) rfl ?_
    exact hR
  · replace hR := hR.2 hc
    refine x_bipush (pc := 9) (n := (-3)) (show decode mX8_mirror.2.1 9 = .ok (.bipush (-3), 2) by decide +kernel) rfl ?_
    exact x_iret (pc := 11) rfl (show decode mX8_mirror.2.1 11 = .ok (.ireturn, 1) by decide +kernel) ⟨_, rfl, hR⟩
set_option maxRecDepth 4000 in
theorem sg_X8_mirror_14 {d : Nat} {x1 : Int} {h : xH} {Q : Int → xH → Prop}
    (hR : (inI x1 ∧ inI (h 1 1)) ∧ ((h 1 1) ≤ x1 → gI wdM d mX8_mirror 59 [some (.inr (.inr 0)), some (.inl 0), none] h Q) ∧ (x1 < (h 1 1) → (0 ≤ (35 + x1) ∧ (35 + x1) < 1705) ∧ (0 ≤ (35 + x1) ∧ (35 + x1) < 1705) ∧ gI wdM d mX8_mirror 14 [some (.inr (.inr 0)), some (.inl (x1 + 1)), none] (xu h 1 (35 + x1) (((h 1 0) - 2) - (h 1 (35 + x1)))) Q)) :
    gI wdM d mX8_mirror 14 [some (.inr (.inr 0)), some (.inl x1), none] h Q := by
  unfold gI
  refine x_iload_n (pc := 14) (show decode mX8_mirror.2.1 14 = .ok (.iload_n 1, 1) by decide +kernel) rfl rfl ?_
  refine x_aload_n (pc := 15) (show decode mX8_mirror.2.1 15 = .ok (.aload_n 0, 1) by decide +kernel) rfl rfl ?_
  refine x_getR (pc := 16) f8_11 rfl rfl (show decode mX8_mirror.2.1 16 = .ok (.getfield 11, 3) by decide +kernel) ?_
  refine x_iconst (pc := 19) (n := 1) (show decode mX8_mirror.2.1 19 = .ok (.iconst 1, 1) by decide +kernel) ?_
  refine x_iald (pc := 20) rfl (by decide) (by decide) (show decode mX8_mirror.2.1 20 = .ok (.iaload, 1) by decide +kernel) ?_
  obtain ⟨hg, hR⟩ := hR
  refine x_icmp_ge (pc := 21) (tgt := 57) (show decode mX8_mirror.2.1 21 = .ok (.if_icmp .ge 36, 3) by decide +kernel) (by decide) ⟨hg.1, hg.2⟩ (fun hc => ?_) (fun hc => ?_)
  · replace hR := hR.1 hc
    refine x_iconst (pc := 57) (n := 0) (show decode mX8_mirror.2.1 57 = .ok (.iconst 0, 1) by decide +kernel) ?_
    refine x_istore_n (pc := 58) (ls' := [some (.inr (.inr 0)), some (.inl 0), none]) (show decode mX8_mirror.2.1 58 = .ok (.istore_n 1, 1) by decide +kernel) rfl (by decide) rfl ?_
    exact hR
  · replace hR := hR.2 hc
    refine x_aload_n (pc := 24) (show decode mX8_mirror.2.1 24 = .ok (.aload_n 0, 1) by decide +kernel) rfl rfl ?_
    refine x_getR (pc := 25) f8_11 rfl rfl (show decode mX8_mirror.2.1 25 = .ok (.getfield 11, 3) by decide +kernel) ?_
    refine x_bipush (pc := 28) (n := 35) (show decode mX8_mirror.2.1 28 = .ok (.bipush 35, 2) by decide +kernel) rfl ?_
    refine x_iload_n (pc := 30) (show decode mX8_mirror.2.1 30 = .ok (.iload_n 1, 1) by decide +kernel) rfl rfl ?_
    refine x_iadd (pc := 31) (show decode mX8_mirror.2.1 31 = .ok (.iadd, 1) by decide +kernel) ?_
    refine x_aload_n (pc := 32) (show decode mX8_mirror.2.1 32 = .ok (.aload_n 0, 1) by decide +kernel) rfl rfl ?_
    refine x_getR (pc := 33) f8_11 rfl rfl (show decode mX8_mirror.2.1 33 = .ok (.getfield 11, 3) by decide +kernel) ?_
    refine x_iconst (pc := 36) (n := 0) (show decode mX8_mirror.2.1 36 = .ok (.iconst 0, 1) by decide +kernel) ?_
    refine x_iald (pc := 37) rfl (by decide) (by decide) (show decode mX8_mirror.2.1 37 = .ok (.iaload, 1) by decide +kernel) ?_
    refine x_iconst (pc := 38) (n := 2) (show decode mX8_mirror.2.1 38 = .ok (.iconst 2, 1) by decide +kernel) ?_
    refine x_isub (pc := 39) (show decode mX8_mirror.2.1 39 = .ok (.isub, 1) by decide +kernel) ?_
    refine x_aload_n (pc := 40) (show decode mX8_mirror.2.1 40 = .ok (.aload_n 0, 1) by decide +kernel) rfl rfl ?_
    refine x_getR (pc := 41) f8_11 rfl rfl (show decode mX8_mirror.2.1 41 = .ok (.getfield 11, 3) by decide +kernel) ?_
    refine x_bipush (pc := 44) (n := 35) (show decode mX8_mirror.2.1 44 = .ok (.bipush 35, 2) by decide +kernel) rfl ?_
    refine x_iload_n (pc := 46) (show decode mX8_mirror.2.1 46 = .ok (.iload_n 1, 1) by decide +kernel) rfl rfl ?_
    refine x_iadd (pc := 47) (show decode mX8_mirror.2.1 47 = .ok (.iadd, 1) by decide +kernel) ?_
    obtain ⟨hg, hR⟩ := hR
    refine x_iald (pc := 48) rfl (by decide) hg (show decode mX8_mirror.2.1 48 = .ok (.iaload, 1) by decide +kernel) ?_
    refine x_isub (pc := 49) (show decode mX8_mirror.2.1 49 = .ok (.isub, 1) by decide +kernel) ?_
    obtain ⟨hg, hR⟩ := hR
    refine x_iast (pc := 50) rfl (by decide) hg (show decode mX8_mirror.2.1 50 = .ok (.iastore, 1) by decide +kernel) ?_
    refine x_iinc (pc := 51) (ls' := [some (.inr (.inr 0)), some (.inl (x1 + 1)), none]) (show decode mX8_mirror.2.1 51 = .ok (.iinc 1 1, 3) by decide +kernel) (by decide) rfl rfl ?_
    refine x_goto (pc := 54) (tgt := 14) (show decode mX8_mirror.2.1 54 = .ok (.goto (-40), 3) by decide +kernel) (by decide) ?_
    exact hR
set_option maxRecDepth 4000 in
theorem sg_X8_mirror_59 {d : Nat} {x1 : Int} {h : xH} {Q : Int → xH → Prop}
    (hR : (inI x1 ∧ inI (h 1 2)) ∧ ((h 1 2) ≤ x1 → gI wdM d mX8_mirror 126 [some (.inr (.inr 0)), some (.inl 0), none] h Q) ∧ (x1 < (h 1 2) → (0 ≤ (137 + x1) ∧ (137 + x1) < 1705) ∧ (0 ≤ (h 1 (137 + x1)) ∧ inI (h 1 (137 + x1))) ∧ (0 ≤ (137 + x1) ∧ (137 + x1) < 1705) ∧ (0 ≤ (h 1 (137 + x1)) ∧ inI (h 1 (137 + x1))) ∧ (0 ≤ (137 + x1) ∧ (137 + x1) < 1705) ∧ gI wdM d mX8_mirror 59 [some (.inr (.inr 0)), some (.inl (x1 + 1)), none] (xu h 1 (137 + x1) ((100 * (((h 1 0) - 1) - ((h 1 (137 + x1)) / 100))) + ((h 1 (137 + x1)) % 100))) Q)) :
    gI wdM d mX8_mirror 59 [some (.inr (.inr 0)), some (.inl x1), none] h Q := by
  unfold gI
  refine x_iload_n (pc := 59) (show decode mX8_mirror.2.1 59 = .ok (.iload_n 1, 1) by decide +kernel) rfl rfl ?_
  refine x_aload_n (pc := 60) (show decode mX8_mirror.2.1 60 = .ok (.aload_n 0, 1) by decide +kernel) rfl rfl ?_
  refine x_getR (pc := 61) f8_11 rfl rfl (show decode mX8_mirror.2.1 61 = .ok (.getfield 11, 3) by decide +kernel) ?_
  refine x_iconst (pc := 64) (n := 2) (show decode mX8_mirror.2.1 64 = .ok (.iconst 2, 1) by decide +kernel) ?_
  refine x_iald (pc := 65) rfl (by decide) (by decide) (show decode mX8_mirror.2.1 65 = .ok (.iaload, 1) by decide +kernel) ?_
  obtain ⟨hg, hR⟩ := hR
  refine x_icmp_ge (pc := 66) (tgt := 124) (show decode mX8_mirror.2.1 66 = .ok (.if_icmp .ge 58, 3) by decide +kernel) (by decide) ⟨hg.1, hg.2⟩ (fun hc => ?_) (fun hc => ?_)
  · replace hR := hR.1 hc
    refine x_iconst (pc := 124) (n := 0) (show decode mX8_mirror.2.1 124 = .ok (.iconst 0, 1) by decide +kernel) ?_
    refine x_istore_n (pc := 125) (ls' := [some (.inr (.inr 0)), some (.inl 0), none]) (show decode mX8_mirror.2.1 125 = .ok (.istore_n 1, 1) by decide +kernel) rfl (by decide) rfl ?_
    exact hR
  · replace hR := hR.2 hc
    refine x_aload_n (pc := 69) (show decode mX8_mirror.2.1 69 = .ok (.aload_n 0, 1) by decide +kernel) rfl rfl ?_
    refine x_getR (pc := 70) f8_11 rfl rfl (show decode mX8_mirror.2.1 70 = .ok (.getfield 11, 3) by decide +kernel) ?_
    refine x_sipush (pc := 73) (n := 137) (show decode mX8_mirror.2.1 73 = .ok (.sipush 137, 3) by decide +kernel) rfl ?_
    refine x_iload_n (pc := 76) (show decode mX8_mirror.2.1 76 = .ok (.iload_n 1, 1) by decide +kernel) rfl rfl ?_
    refine x_iadd (pc := 77) (show decode mX8_mirror.2.1 77 = .ok (.iadd, 1) by decide +kernel) ?_
    refine x_bipush (pc := 78) (n := 100) (show decode mX8_mirror.2.1 78 = .ok (.bipush 100, 2) by decide +kernel) rfl ?_
    refine x_aload_n (pc := 80) (show decode mX8_mirror.2.1 80 = .ok (.aload_n 0, 1) by decide +kernel) rfl rfl ?_
    refine x_getR (pc := 81) f8_11 rfl rfl (show decode mX8_mirror.2.1 81 = .ok (.getfield 11, 3) by decide +kernel) ?_
    refine x_iconst (pc := 84) (n := 0) (show decode mX8_mirror.2.1 84 = .ok (.iconst 0, 1) by decide +kernel) ?_
    refine x_iald (pc := 85) rfl (by decide) (by decide) (show decode mX8_mirror.2.1 85 = .ok (.iaload, 1) by decide +kernel) ?_
    refine x_iconst (pc := 86) (n := 1) (show decode mX8_mirror.2.1 86 = .ok (.iconst 1, 1) by decide +kernel) ?_
    refine x_isub (pc := 87) (show decode mX8_mirror.2.1 87 = .ok (.isub, 1) by decide +kernel) ?_
    refine x_aload_n (pc := 88) (show decode mX8_mirror.2.1 88 = .ok (.aload_n 0, 1) by decide +kernel) rfl rfl ?_
    refine x_getR (pc := 89) f8_11 rfl rfl (show decode mX8_mirror.2.1 89 = .ok (.getfield 11, 3) by decide +kernel) ?_
    refine x_sipush (pc := 92) (n := 137) (show decode mX8_mirror.2.1 92 = .ok (.sipush 137, 3) by decide +kernel) rfl ?_
    refine x_iload_n (pc := 95) (show decode mX8_mirror.2.1 95 = .ok (.iload_n 1, 1) by decide +kernel) rfl rfl ?_
    refine x_iadd (pc := 96) (show decode mX8_mirror.2.1 96 = .ok (.iadd, 1) by decide +kernel) ?_
    obtain ⟨hg, hR⟩ := hR
    refine x_iald (pc := 97) rfl (by decide) hg (show decode mX8_mirror.2.1 97 = .ok (.iaload, 1) by decide +kernel) ?_
    refine x_bipush (pc := 98) (n := 100) (show decode mX8_mirror.2.1 98 = .ok (.bipush 100, 2) by decide +kernel) rfl ?_
    obtain ⟨hg, hR⟩ := hR
    refine x_idiv (pc := 100) (show decode mX8_mirror.2.1 100 = .ok (.idiv, 1) by decide +kernel) ⟨hg, by decide, by unfold inI; decide⟩ ?_
    refine x_isub (pc := 101) (show decode mX8_mirror.2.1 101 = .ok (.isub, 1) by decide +kernel) ?_
    refine x_imul (pc := 102) (show decode mX8_mirror.2.1 102 = .ok (.imul, 1) by decide +kernel) ?_
    refine x_aload_n (pc := 103) (show decode mX8_mirror.2.1 103 = .ok (.aload_n 0, 1) by decide +kernel) rfl rfl ?_
    refine x_getR (pc := 104) f8_11 rfl rfl (show decode mX8_mirror.2.1 104 = .ok (.getfield 11, 3) by decide +kernel) ?_
    refine x_sipush (pc := 107) (n := 137) (show decode mX8_mirror.2.1 107 = .ok (.sipush 137, 3) by decide +kernel) rfl ?_
    refine x_iload_n (pc := 110) (show decode mX8_mirror.2.1 110 = .ok (.iload_n 1, 1) by decide +kernel) rfl rfl ?_
    refine x_iadd (pc := 111) (show decode mX8_mirror.2.1 111 = .ok (.iadd, 1) by decide +kernel) ?_
    obtain ⟨hg, hR⟩ := hR
    refine x_iald (pc := 112) rfl (by decide) hg (show decode mX8_mirror.2.1 112 = .ok (.iaload, 1) by decide +kernel) ?_
    refine x_bipush (pc := 113) (n := 100) (show decode mX8_mirror.2.1 113 = .ok (.bipush 100, 2) by decide +kernel) rfl ?_
    obtain ⟨hg, hR⟩ := hR
    refine x_irem (pc := 115) (show decode mX8_mirror.2.1 115 = .ok (.irem, 1) by decide +kernel) ⟨hg, by decide, by unfold inI; decide⟩ ?_
    refine x_iadd (pc := 116) (show decode mX8_mirror.2.1 116 = .ok (.iadd, 1) by decide +kernel) ?_
    obtain ⟨hg, hR⟩ := hR
    refine x_iast (pc := 117) rfl (by decide) hg (show decode mX8_mirror.2.1 117 = .ok (.iastore, 1) by decide +kernel) ?_
    refine x_iinc (pc := 118) (ls' := [some (.inr (.inr 0)), some (.inl (x1 + 1)), none]) (show decode mX8_mirror.2.1 118 = .ok (.iinc 1 1, 3) by decide +kernel) (by decide) rfl rfl ?_
    refine x_goto (pc := 121) (tgt := 59) (show decode mX8_mirror.2.1 121 = .ok (.goto (-62), 3) by decide +kernel) (by decide) ?_
    exact hR
set_option maxRecDepth 4000 in
theorem sg_X8_mirror_126 {d : Nat} {x1 : Int} {h : xH} {Q : Int → xH → Prop}
    (hR : (inI (2 * x1) ∧ inI (h 1 0)) ∧ ((h 1 0) ≤ (2 * x1) → Q (h 1 1) h) ∧ ((2 * x1) < (h 1 0) → (0 ≤ (125 + x1) ∧ (125 + x1) < 1705) ∧ (0 ≤ (((125 + (h 1 0)) - 1) - x1) ∧ (((125 + (h 1 0)) - 1) - x1) < 1705) ∧ (0 ≤ (125 + x1) ∧ (125 + x1) < 1705) ∧ (0 ≤ (((125 + ((xu h 1 (125 + x1) (h 1 (((125 + (h 1 0)) - 1) - x1))) 1 0)) - 1) - x1) ∧ (((125 + ((xu h 1 (125 + x1) (h 1 (((125 + (h 1 0)) - 1) - x1))) 1 0)) - 1) - x1) < 1705) ∧ gI wdM d mX8_mirror 126 [some (.inr (.inr 0)), some (.inl (x1 + 1)), none] (xu (xu h 1 (125 + x1) (h 1 (((125 + (h 1 0)) - 1) - x1))) 1 (((125 + ((xu h 1 (125 + x1) (h 1 (((125 + (h 1 0)) - 1) - x1))) 1 0)) - 1) - x1) (h 1 (125 + x1))) Q)) :
    gI wdM d mX8_mirror 126 [some (.inr (.inr 0)), some (.inl x1), none] h Q := by
  unfold gI
  refine x_iconst (pc := 126) (n := 2) (show decode mX8_mirror.2.1 126 = .ok (.iconst 2, 1) by decide +kernel) ?_
  refine x_iload_n (pc := 127) (show decode mX8_mirror.2.1 127 = .ok (.iload_n 1, 1) by decide +kernel) rfl rfl ?_
  refine x_imul (pc := 128) (show decode mX8_mirror.2.1 128 = .ok (.imul, 1) by decide +kernel) ?_
  refine x_aload_n (pc := 129) (show decode mX8_mirror.2.1 129 = .ok (.aload_n 0, 1) by decide +kernel) rfl rfl ?_
  refine x_getR (pc := 130) f8_11 rfl rfl (show decode mX8_mirror.2.1 130 = .ok (.getfield 11, 3) by decide +kernel) ?_
  refine x_iconst (pc := 133) (n := 0) (show decode mX8_mirror.2.1 133 = .ok (.iconst 0, 1) by decide +kernel) ?_
  refine x_iald (pc := 134) rfl (by decide) (by decide) (show decode mX8_mirror.2.1 134 = .ok (.iaload, 1) by decide +kernel) ?_
  obtain ⟨hg, hR⟩ := hR
  refine x_icmp_ge (pc := 135) (tgt := 200) (show decode mX8_mirror.2.1 135 = .ok (.if_icmp .ge 65, 3) by decide +kernel) (by decide) ⟨hg.1, hg.2⟩ (fun hc => ?_) (fun hc => ?_)
  · replace hR := hR.1 hc
    refine x_aload_n (pc := 200) (show decode mX8_mirror.2.1 200 = .ok (.aload_n 0, 1) by decide +kernel) rfl rfl ?_
    refine x_getR (pc := 201) f8_11 rfl rfl (show decode mX8_mirror.2.1 201 = .ok (.getfield 11, 3) by decide +kernel) ?_
    refine x_iconst (pc := 204) (n := 1) (show decode mX8_mirror.2.1 204 = .ok (.iconst 1, 1) by decide +kernel) ?_
    refine x_iald (pc := 205) rfl (by decide) (by decide) (show decode mX8_mirror.2.1 205 = .ok (.iaload, 1) by decide +kernel) ?_
    exact x_iret (pc := 206) rfl (show decode mX8_mirror.2.1 206 = .ok (.ireturn, 1) by decide +kernel) ⟨_, rfl, hR⟩
  · replace hR := hR.2 hc
    refine x_aload_n (pc := 138) (show decode mX8_mirror.2.1 138 = .ok (.aload_n 0, 1) by decide +kernel) rfl rfl ?_
    refine x_getR (pc := 139) f8_11 rfl rfl (show decode mX8_mirror.2.1 139 = .ok (.getfield 11, 3) by decide +kernel) ?_
    refine x_bipush (pc := 142) (n := 125) (show decode mX8_mirror.2.1 142 = .ok (.bipush 125, 2) by decide +kernel) rfl ?_
    refine x_iload_n (pc := 144) (show decode mX8_mirror.2.1 144 = .ok (.iload_n 1, 1) by decide +kernel) rfl rfl ?_
    refine x_iadd (pc := 145) (show decode mX8_mirror.2.1 145 = .ok (.iadd, 1) by decide +kernel) ?_
    obtain ⟨hg, hR⟩ := hR
    refine x_iald (pc := 146) rfl (by decide) hg (show decode mX8_mirror.2.1 146 = .ok (.iaload, 1) by decide +kernel) ?_
    refine x_istore_n (pc := 147) (ls' := [some (.inr (.inr 0)), some (.inl x1), some (.inl (h 1 (125 + x1)))]) (show decode mX8_mirror.2.1 147 = .ok (.istore_n 2, 1) by decide +kernel) rfl (by decide) rfl ?_
    refine x_aload_n (pc := 148) (show decode mX8_mirror.2.1 148 = .ok (.aload_n 0, 1) by decide +kernel) rfl rfl ?_
    refine x_getR (pc := 149) f8_11 rfl rfl (show decode mX8_mirror.2.1 149 = .ok (.getfield 11, 3) by decide +kernel) ?_
    refine x_bipush (pc := 152) (n := 125) (show decode mX8_mirror.2.1 152 = .ok (.bipush 125, 2) by decide +kernel) rfl ?_
    refine x_iload_n (pc := 154) (show decode mX8_mirror.2.1 154 = .ok (.iload_n 1, 1) by decide +kernel) rfl rfl ?_
    refine x_iadd (pc := 155) (show decode mX8_mirror.2.1 155 = .ok (.iadd, 1) by decide +kernel) ?_
    refine x_aload_n (pc := 156) (show decode mX8_mirror.2.1 156 = .ok (.aload_n 0, 1) by decide +kernel) rfl rfl ?_
    refine x_getR (pc := 157) f8_11 rfl rfl (show decode mX8_mirror.2.1 157 = .ok (.getfield 11, 3) by decide +kernel) ?_
    refine x_bipush (pc := 160) (n := 125) (show decode mX8_mirror.2.1 160 = .ok (.bipush 125, 2) by decide +kernel) rfl ?_
    refine x_aload_n (pc := 162) (show decode mX8_mirror.2.1 162 = .ok (.aload_n 0, 1) by decide +kernel) rfl rfl ?_
    refine x_getR (pc := 163) f8_11 rfl rfl (show decode mX8_mirror.2.1 163 = .ok (.getfield 11, 3) by decide +kernel) ?_
    refine x_iconst (pc := 166) (n := 0) (show decode mX8_mirror.2.1 166 = .ok (.iconst 0, 1) by decide +kernel) ?_
    refine x_iald (pc := 167) rfl (by decide) (by decide) (show decode mX8_mirror.2.1 167 = .ok (.iaload, 1) by decide +kernel) ?_
    refine x_iadd (pc := 168) (show decode mX8_mirror.2.1 168 = .ok (.iadd, 1) by decide +kernel) ?_
    refine x_iconst (pc := 169) (n := 1) (show decode mX8_mirror.2.1 169 = .ok (.iconst 1, 1) by decide +kernel) ?_
    refine x_isub (pc := 170) (show decode mX8_mirror.2.1 170 = .ok (.isub, 1) by decide +kernel) ?_
    refine x_iload_n (pc := 171) (show decode mX8_mirror.2.1 171 = .ok (.iload_n 1, 1) by decide +kernel) rfl rfl ?_
    refine x_isub (pc := 172) (show decode mX8_mirror.2.1 172 = .ok (.isub, 1) by decide +kernel) ?_
    obtain ⟨hg, hR⟩ := hR
    refine x_iald (pc := 173) rfl (by decide) hg (show decode mX8_mirror.2.1 173 = .ok (.iaload, 1) by decide +kernel) ?_
    obtain ⟨hg, hR⟩ := hR
    refine x_iast (pc := 174) rfl (by decide) hg (show decode mX8_mirror.2.1 174 = .ok (.iastore, 1) by decide +kernel) ?_
    refine x_aload_n (pc := 175) (show decode mX8_mirror.2.1 175 = .ok (.aload_n 0, 1) by decide +kernel) rfl rfl ?_
    refine x_getR (pc := 176) f8_11 rfl rfl (show decode mX8_mirror.2.1 176 = .ok (.getfield 11, 3) by decide +kernel) ?_
    refine x_bipush (pc := 179) (n := 125) (show decode mX8_mirror.2.1 179 = .ok (.bipush 125, 2) by decide +kernel) rfl ?_
    refine x_aload_n (pc := 181) (show decode mX8_mirror.2.1 181 = .ok (.aload_n 0, 1) by decide +kernel) rfl rfl ?_
    refine x_getR (pc := 182) f8_11 rfl rfl (show decode mX8_mirror.2.1 182 = .ok (.getfield 11, 3) by decide +kernel) ?_
    refine x_iconst (pc := 185) (n := 0) (show decode mX8_mirror.2.1 185 = .ok (.iconst 0, 1) by decide +kernel) ?_
    refine x_iald (pc := 186) rfl (by decide) (by decide) (show decode mX8_mirror.2.1 186 = .ok (.iaload, 1) by decide +kernel) ?_
    refine x_iadd (pc := 187) (show decode mX8_mirror.2.1 187 = .ok (.iadd, 1) by decide +kernel) ?_
    refine x_iconst (pc := 188) (n := 1) (show decode mX8_mirror.2.1 188 = .ok (.iconst 1, 1) by decide +kernel) ?_
    refine x_isub (pc := 189) (show decode mX8_mirror.2.1 189 = .ok (.isub, 1) by decide +kernel) ?_
    refine x_iload_n (pc := 190) (show decode mX8_mirror.2.1 190 = .ok (.iload_n 1, 1) by decide +kernel) rfl rfl ?_
    refine x_isub (pc := 191) (show decode mX8_mirror.2.1 191 = .ok (.isub, 1) by decide +kernel) ?_
    refine x_iload_n (pc := 192) (show decode mX8_mirror.2.1 192 = .ok (.iload_n 2, 1) by decide +kernel) rfl rfl ?_
    obtain ⟨hg, hR⟩ := hR
    refine x_iast (pc := 193) rfl (by decide) hg (show decode mX8_mirror.2.1 193 = .ok (.iastore, 1) by decide +kernel) ?_
    refine x_iinc (pc := 194) (ls' := [some (.inr (.inr 0)), some (.inl (x1 + 1)), some (.inl (h 1 (125 + x1)))]) (show decode mX8_mirror.2.1 194 = .ok (.iinc 1 1, 3) by decide +kernel) (by decide) rfl rfl ?_
    refine x_goto (pc := 197) (tgt := 126) (show decode mX8_mirror.2.1 197 = .ok (.goto (-71), 3) by decide +kernel) (by decide) ?_
    exact x_weak (xle_get (by repeat' constructor)) hR
set_option maxRecDepth 4000 in
theorem sg_X8_hasPin_0 {d : Nat} {x1 x2 x3 : Int} {h : xH} {Q : Int → xH → Prop}
    (hR : gI wdM d mX8_hasPin 3 [some (.inr (.inr 0)), some (.inl x1), some (.inl x2), some (.inl x3), some (.inl 0)] h Q) :
    gI wdM d mX8_hasPin 0 [some (.inr (.inr 0)), some (.inl x1), some (.inl x2), some (.inl x3), none] h Q := by
  unfold gI
  refine x_iconst (pc := 0) (n := 0) (show decode mX8_hasPin.2.1 0 = .ok (.iconst 0, 1) by decide +kernel) ?_
  refine x_istore (pc := 1) (ls' := [some (.inr (.inr 0)), some (.inl x1), some (.inl x2), some (.inl x3), some (.inl 0)]) (show decode mX8_hasPin.2.1 1 = .ok (.istore 4, 2) by decide +kernel) (by decide) rfl ?_
  exact hR
set_option maxRecDepth 4000 in
theorem sg_X8_hasPin_3 {d : Nat} {x1 x2 x3 x4 : Int} {h : xH} {Q : Int → xH → Prop}
    (hR : (inI x4 ∧ inI (h 1 1)) ∧ ((h 1 1) ≤ x4 → Q 0 h) ∧ (x4 < (h 1 1) → (0 ≤ (5 + x4) ∧ (5 + x4) < 1705) ∧ (inI (h 1 (5 + x4)) ∧ inI x1) ∧ (¬ (h 1 (5 + x4)) = x1 → gI wdM d mX8_hasPin 3 [some (.inr (.inr 0)), some (.inl x1), some (.inl x2), some (.inl x3), some (.inl (x4 + 1))] h Q) ∧ ((h 1 (5 + x4)) = x1 → (0 ≤ (35 + x4) ∧ (35 + x4) < 1705) ∧ (inI (h 1 (35 + x4)) ∧ inI x2) ∧ (¬ (h 1 (35 + x4)) = x2 → gI wdM d mX8_hasPin 3 [some (.inr (.inr 0)), some (.inl x1), some (.inl x2), some (.inl x3), some (.inl (x4 + 1))] h Q) ∧ ((h 1 (35 + x4)) = x2 → (0 ≤ (65 + x4) ∧ (65 + x4) < 1705) ∧ (inI (h 1 (65 + x4)) ∧ inI x3) ∧ (¬ (h 1 (65 + x4)) = x3 → gI wdM d mX8_hasPin 3 [some (.inr (.inr 0)), some (.inl x1), some (.inl x2), some (.inl x3), some (.inl (x4 + 1))] h Q) ∧ ((h 1 (65 + x4)) = x3 → Q 1 h))))) :
    gI wdM d mX8_hasPin 3 [some (.inr (.inr 0)), some (.inl x1), some (.inl x2), some (.inl x3), some (.inl x4)] h Q := by
  unfold gI
  refine x_iload (pc := 3) (show decode mX8_hasPin.2.1 3 = .ok (.iload 4, 2) by decide +kernel) rfl ?_
  refine x_aload_n (pc := 5) (show decode mX8_hasPin.2.1 5 = .ok (.aload_n 0, 1) by decide +kernel) rfl rfl ?_
  refine x_getR (pc := 6) f8_11 rfl rfl (show decode mX8_hasPin.2.1 6 = .ok (.getfield 11, 3) by decide +kernel) ?_
  refine x_iconst (pc := 9) (n := 1) (show decode mX8_hasPin.2.1 9 = .ok (.iconst 1, 1) by decide +kernel) ?_
  refine x_iald (pc := 10) rfl (by decide) (by decide) (show decode mX8_hasPin.2.1 10 = .ok (.iaload, 1) by decide +kernel) ?_
  obtain ⟨hg, hR⟩ := hR
  refine x_icmp_ge (pc := 11) (tgt := 63) (show decode mX8_hasPin.2.1 11 = .ok (.if_icmp .ge 52, 3) by decide +kernel) (by decide) ⟨hg.1, hg.2⟩ (fun hc => ?_) (fun hc => ?_)
  · replace hR := hR.1 hc
    refine x_iconst (pc := 63) (n := 0) (show decode mX8_hasPin.2.1 63 = .ok (.iconst 0, 1) by decide +kernel) ?_
    exact x_zret (pc := 64) rfl (show decode mX8_hasPin.2.1 64 = .ok (.ireturn, 1) by decide +kernel) (by decide) ⟨_, rfl, hR⟩
  · replace hR := hR.2 hc
    refine x_aload_n (pc := 14) (show decode mX8_hasPin.2.1 14 = .ok (.aload_n 0, 1) by decide +kernel) rfl rfl ?_
    refine x_getR (pc := 15) f8_11 rfl rfl (show decode mX8_hasPin.2.1 15 = .ok (.getfield 11, 3) by decide +kernel) ?_
    refine x_iconst (pc := 18) (n := 5) (show decode mX8_hasPin.2.1 18 = .ok (.iconst 5, 1) by decide +kernel) ?_
    refine x_iload (pc := 19) (show decode mX8_hasPin.2.1 19 = .ok (.iload 4, 2) by decide +kernel) rfl ?_
    refine x_iadd (pc := 21) (show decode mX8_hasPin.2.1 21 = .ok (.iadd, 1) by decide +kernel) ?_
    obtain ⟨hg, hR⟩ := hR
    refine x_iald (pc := 22) rfl (by decide) hg (show decode mX8_hasPin.2.1 22 = .ok (.iaload, 1) by decide +kernel) ?_
    refine x_iload_n (pc := 23) (show decode mX8_hasPin.2.1 23 = .ok (.iload_n 1, 1) by decide +kernel) rfl rfl ?_
    obtain ⟨hg, hR⟩ := hR
    refine x_icmp_ne (pc := 24) (tgt := 57) (show decode mX8_hasPin.2.1 24 = .ok (.if_icmp .ne 33, 3) by decide +kernel) (by decide) ⟨hg.1, hg.2⟩ (fun hc => ?_) (fun hc => ?_)
    · replace hR := hR.1 hc
      refine x_iinc (pc := 57) (ls' := [some (.inr (.inr 0)), some (.inl x1), some (.inl x2), some (.inl x3), some (.inl (x4 + 1))]) (show decode mX8_hasPin.2.1 57 = .ok (.iinc 4 1, 3) by decide +kernel) (by decide) rfl rfl ?_
      refine x_goto (pc := 60) (tgt := 3) (show decode mX8_hasPin.2.1 60 = .ok (.goto (-57), 3) by decide +kernel) (by decide) ?_
      exact hR
    · replace hR := hR.2 hc
      refine x_aload_n (pc := 27) (show decode mX8_hasPin.2.1 27 = .ok (.aload_n 0, 1) by decide +kernel) rfl rfl ?_
      refine x_getR (pc := 28) f8_11 rfl rfl (show decode mX8_hasPin.2.1 28 = .ok (.getfield 11, 3) by decide +kernel) ?_
      refine x_bipush (pc := 31) (n := 35) (show decode mX8_hasPin.2.1 31 = .ok (.bipush 35, 2) by decide +kernel) rfl ?_
      refine x_iload (pc := 33) (show decode mX8_hasPin.2.1 33 = .ok (.iload 4, 2) by decide +kernel) rfl ?_
      refine x_iadd (pc := 35) (show decode mX8_hasPin.2.1 35 = .ok (.iadd, 1) by decide +kernel) ?_
      obtain ⟨hg, hR⟩ := hR
      refine x_iald (pc := 36) rfl (by decide) hg (show decode mX8_hasPin.2.1 36 = .ok (.iaload, 1) by decide +kernel) ?_
      refine x_iload_n (pc := 37) (show decode mX8_hasPin.2.1 37 = .ok (.iload_n 2, 1) by decide +kernel) rfl rfl ?_
      obtain ⟨hg, hR⟩ := hR
      refine x_icmp_ne (pc := 38) (tgt := 57) (show decode mX8_hasPin.2.1 38 = .ok (.if_icmp .ne 19, 3) by decide +kernel) (by decide) ⟨hg.1, hg.2⟩ (fun hc => ?_) (fun hc => ?_)
      · replace hR := hR.1 hc
        refine x_iinc (pc := 57) (ls' := [some (.inr (.inr 0)), some (.inl x1), some (.inl x2), some (.inl x3), some (.inl (x4 + 1))]) (show decode mX8_hasPin.2.1 57 = .ok (.iinc 4 1, 3) by decide +kernel) (by decide) rfl rfl ?_
        refine x_goto (pc := 60) (tgt := 3) (show decode mX8_hasPin.2.1 60 = .ok (.goto (-57), 3) by decide +kernel) (by decide) ?_
        exact hR
      · replace hR := hR.2 hc
        refine x_aload_n (pc := 41) (show decode mX8_hasPin.2.1 41 = .ok (.aload_n 0, 1) by decide +kernel) rfl rfl ?_
        refine x_getR (pc := 42) f8_11 rfl rfl (show decode mX8_hasPin.2.1 42 = .ok (.getfield 11, 3) by decide +kernel) ?_
        refine x_bipush (pc := 45) (n := 65) (show decode mX8_hasPin.2.1 45 = .ok (.bipush 65, 2) by decide +kernel) rfl ?_
        refine x_iload (pc := 47) (show decode mX8_hasPin.2.1 47 = .ok (.iload 4, 2) by decide +kernel) rfl ?_
        refine x_iadd (pc := 49) (show decode mX8_hasPin.2.1 49 = .ok (.iadd, 1) by decide +kernel) ?_
        obtain ⟨hg, hR⟩ := hR
        refine x_iald (pc := 50) rfl (by decide) hg (show decode mX8_hasPin.2.1 50 = .ok (.iaload, 1) by decide +kernel) ?_
        refine x_iload_n (pc := 51) (show decode mX8_hasPin.2.1 51 = .ok (.iload_n 3, 1) by decide +kernel) rfl rfl ?_
        obtain ⟨hg, hR⟩ := hR
        refine x_icmp_ne (pc := 52) (tgt := 57) (show decode mX8_hasPin.2.1 52 = .ok (.if_icmp .ne 5, 3) by decide +kernel) (by decide) ⟨hg.1, hg.2⟩ (fun hc => ?_) (fun hc => ?_)
        · replace hR := hR.1 hc
          refine x_iinc (pc := 57) (ls' := [some (.inr (.inr 0)), some (.inl x1), some (.inl x2), some (.inl x3), some (.inl (x4 + 1))]) (show decode mX8_hasPin.2.1 57 = .ok (.iinc 4 1, 3) by decide +kernel) (by decide) rfl rfl ?_
          refine x_goto (pc := 60) (tgt := 3) (show decode mX8_hasPin.2.1 60 = .ok (.goto (-57), 3) by decide +kernel) (by decide) ?_
          exact hR
        · replace hR := hR.2 hc
          refine x_iconst (pc := 55) (n := 1) (show decode mX8_hasPin.2.1 55 = .ok (.iconst 1, 1) by decide +kernel) ?_
          exact x_zret (pc := 56) rfl (show decode mX8_hasPin.2.1 56 = .ok (.ireturn, 1) by decide +kernel) (by decide) ⟨_, rfl, hR⟩
set_option maxRecDepth 4000 in
theorem sg_X8_hasTurn_0 {d : Nat} {x1 : Int} {h : xH} {Q : Int → xH → Prop}
    (hR : gI wdM d mX8_hasTurn 2 [some (.inr (.inr 0)), some (.inl x1), some (.inl 0)] h Q) :
    gI wdM d mX8_hasTurn 0 [some (.inr (.inr 0)), some (.inl x1), none] h Q := by
  unfold gI
  refine x_iconst (pc := 0) (n := 0) (show decode mX8_hasTurn.2.1 0 = .ok (.iconst 0, 1) by decide +kernel) ?_
  refine x_istore_n (pc := 1) (ls' := [some (.inr (.inr 0)), some (.inl x1), some (.inl 0)]) (show decode mX8_hasTurn.2.1 1 = .ok (.istore_n 2, 1) by decide +kernel) rfl (by decide) rfl ?_
  exact hR
set_option maxRecDepth 4000 in
theorem sg_X8_hasTurn_2 {d : Nat} {x1 x2 : Int} {h : xH} {Q : Int → xH → Prop}
    (hR : (inI x2 ∧ inI (h 1 2)) ∧ ((h 1 2) ≤ x2 → Q 0 h) ∧ (x2 < (h 1 2) → (0 ≤ (137 + x2) ∧ (137 + x2) < 1705) ∧ (inI (h 1 (137 + x2)) ∧ inI x1) ∧ (¬ (h 1 (137 + x2)) = x1 → gI wdM d mX8_hasTurn 2 [some (.inr (.inr 0)), some (.inl x1), some (.inl (x2 + 1))] h Q) ∧ ((h 1 (137 + x2)) = x1 → Q 1 h))) :
    gI wdM d mX8_hasTurn 2 [some (.inr (.inr 0)), some (.inl x1), some (.inl x2)] h Q := by
  unfold gI
  refine x_iload_n (pc := 2) (show decode mX8_hasTurn.2.1 2 = .ok (.iload_n 2, 1) by decide +kernel) rfl rfl ?_
  refine x_aload_n (pc := 3) (show decode mX8_hasTurn.2.1 3 = .ok (.aload_n 0, 1) by decide +kernel) rfl rfl ?_
  refine x_getR (pc := 4) f8_11 rfl rfl (show decode mX8_hasTurn.2.1 4 = .ok (.getfield 11, 3) by decide +kernel) ?_
  refine x_iconst (pc := 7) (n := 2) (show decode mX8_hasTurn.2.1 7 = .ok (.iconst 2, 1) by decide +kernel) ?_
  refine x_iald (pc := 8) rfl (by decide) (by decide) (show decode mX8_hasTurn.2.1 8 = .ok (.iaload, 1) by decide +kernel) ?_
  obtain ⟨hg, hR⟩ := hR
  refine x_icmp_ge (pc := 9) (tgt := 34) (show decode mX8_hasTurn.2.1 9 = .ok (.if_icmp .ge 25, 3) by decide +kernel) (by decide) ⟨hg.1, hg.2⟩ (fun hc => ?_) (fun hc => ?_)
  · replace hR := hR.1 hc
    refine x_iconst (pc := 34) (n := 0) (show decode mX8_hasTurn.2.1 34 = .ok (.iconst 0, 1) by decide +kernel) ?_
    exact x_zret (pc := 35) rfl (show decode mX8_hasTurn.2.1 35 = .ok (.ireturn, 1) by decide +kernel) (by decide) ⟨_, rfl, hR⟩
  · replace hR := hR.2 hc
    refine x_aload_n (pc := 12) (show decode mX8_hasTurn.2.1 12 = .ok (.aload_n 0, 1) by decide +kernel) rfl rfl ?_
    refine x_getR (pc := 13) f8_11 rfl rfl (show decode mX8_hasTurn.2.1 13 = .ok (.getfield 11, 3) by decide +kernel) ?_
    refine x_sipush (pc := 16) (n := 137) (show decode mX8_hasTurn.2.1 16 = .ok (.sipush 137, 3) by decide +kernel) rfl ?_
    refine x_iload_n (pc := 19) (show decode mX8_hasTurn.2.1 19 = .ok (.iload_n 2, 1) by decide +kernel) rfl rfl ?_
    refine x_iadd (pc := 20) (show decode mX8_hasTurn.2.1 20 = .ok (.iadd, 1) by decide +kernel) ?_
    obtain ⟨hg, hR⟩ := hR
    refine x_iald (pc := 21) rfl (by decide) hg (show decode mX8_hasTurn.2.1 21 = .ok (.iaload, 1) by decide +kernel) ?_
    refine x_iload_n (pc := 22) (show decode mX8_hasTurn.2.1 22 = .ok (.iload_n 1, 1) by decide +kernel) rfl rfl ?_
    obtain ⟨hg, hR⟩ := hR
    refine x_icmp_ne (pc := 23) (tgt := 28) (show decode mX8_hasTurn.2.1 23 = .ok (.if_icmp .ne 5, 3) by decide +kernel) (by decide) ⟨hg.1, hg.2⟩ (fun hc => ?_) (fun hc => ?_)
    · replace hR := hR.1 hc
      refine x_iinc (pc := 28) (ls' := [some (.inr (.inr 0)), some (.inl x1), some (.inl (x2 + 1))]) (show decode mX8_hasTurn.2.1 28 = .ok (.iinc 2 1, 3) by decide +kernel) (by decide) rfl rfl ?_
      refine x_goto (pc := 31) (tgt := 2) (show decode mX8_hasTurn.2.1 31 = .ok (.goto (-29), 3) by decide +kernel) (by decide) ?_
      exact hR
    · replace hR := hR.2 hc
      refine x_iconst (pc := 26) (n := 1) (show decode mX8_hasTurn.2.1 26 = .ok (.iconst 1, 1) by decide +kernel) ?_
      exact x_zret (pc := 27) rfl (show decode mX8_hasTurn.2.1 27 = .ok (.ireturn, 1) by decide +kernel) (by decide) ⟨_, rfl, hR⟩
set_option maxRecDepth 4000 in
theorem sg_X8_even_0 {d : Nat} {h : xH} {Q : Int → xH → Prop}
    (hR : gI wdM d mX8_even 4 [some (.inr (.inr 0)), some (.inl 1), some (.inl 0)] h Q) :
    gI wdM d mX8_even 0 [some (.inr (.inr 0)), none, none] h Q := by
  unfold gI
  refine x_iconst (pc := 0) (n := 1) (show decode mX8_even.2.1 0 = .ok (.iconst 1, 1) by decide +kernel) ?_
  refine x_istore_n (pc := 1) (ls' := [some (.inr (.inr 0)), some (.inl 1), none]) (show decode mX8_even.2.1 1 = .ok (.istore_n 1, 1) by decide +kernel) rfl (by decide) rfl ?_
  refine x_iconst (pc := 2) (n := 0) (show decode mX8_even.2.1 2 = .ok (.iconst 0, 1) by decide +kernel) ?_
  refine x_istore_n (pc := 3) (ls' := [some (.inr (.inr 0)), some (.inl 1), some (.inl 0)]) (show decode mX8_even.2.1 3 = .ok (.istore_n 2, 1) by decide +kernel) rfl (by decide) rfl ?_
  exact hR
set_option maxRecDepth 4000 in
theorem sg_X8_even_4 {d : Nat} {x1 x2 : Int} {h : xH} {Q : Int → xH → Prop} (hd : 1 ≤ d)
    (hR : (inI x2 ∧ inI (h 1 1)) ∧ ((h 1 1) ≤ x2 → gI wdM d mX8_even 64 [some (.inr (.inr 0)), some (.inl x1), some (.inl 0)] h Q) ∧ (x2 < (h 1 1) → (0 ≤ (5 + x2) ∧ (5 + x2) < 1705) ∧ (0 ≤ (35 + x2) ∧ (35 + x2) < 1705) ∧ (0 ≤ (65 + x2) ∧ (65 + x2) < 1705) ∧ cI wdM (d - 1) mX8_hasPin [.inr (.inr 0), .inl (h 1 (5 + x2)), .inl (((h 1 0) - 2) - (h 1 (35 + x2))), .inl (h 1 (65 + x2))] h (fun r2 h1 => gI wdM d mX8_even 4 [some (.inr (.inr 0)), some (.inl (xandI x1 r2)), some (.inl (x2 + 1))] h1 Q))) :
    gI wdM d mX8_even 4 [some (.inr (.inr 0)), some (.inl x1), some (.inl x2)] h Q := by
  unfold gI
  refine x_iload_n (pc := 4) (show decode mX8_even.2.1 4 = .ok (.iload_n 2, 1) by decide +kernel) rfl rfl ?_
  refine x_aload_n (pc := 5) (show decode mX8_even.2.1 5 = .ok (.aload_n 0, 1) by decide +kernel) rfl rfl ?_
  refine x_getR (pc := 6) f8_11 rfl rfl (show decode mX8_even.2.1 6 = .ok (.getfield 11, 3) by decide +kernel) ?_
  refine x_iconst (pc := 9) (n := 1) (show decode mX8_even.2.1 9 = .ok (.iconst 1, 1) by decide +kernel) ?_
  refine x_iald (pc := 10) rfl (by decide) (by decide) (show decode mX8_even.2.1 10 = .ok (.iaload, 1) by decide +kernel) ?_
  obtain ⟨hg, hR⟩ := hR
  refine x_icmp_ge (pc := 11) (tgt := 62) (show decode mX8_even.2.1 11 = .ok (.if_icmp .ge 51, 3) by decide +kernel) (by decide) ⟨hg.1, hg.2⟩ (fun hc => ?_) (fun hc => ?_)
  · replace hR := hR.1 hc
    refine x_iconst (pc := 62) (n := 0) (show decode mX8_even.2.1 62 = .ok (.iconst 0, 1) by decide +kernel) ?_
    refine x_istore_n (pc := 63) (ls' := [some (.inr (.inr 0)), some (.inl x1), some (.inl 0)]) (show decode mX8_even.2.1 63 = .ok (.istore_n 2, 1) by decide +kernel) rfl (by decide) rfl ?_
    exact hR
  · replace hR := hR.2 hc
    refine x_iload_n (pc := 14) (show decode mX8_even.2.1 14 = .ok (.iload_n 1, 1) by decide +kernel) rfl rfl ?_
    refine x_aload_n (pc := 15) (show decode mX8_even.2.1 15 = .ok (.aload_n 0, 1) by decide +kernel) rfl rfl ?_
    refine x_aload_n (pc := 16) (show decode mX8_even.2.1 16 = .ok (.aload_n 0, 1) by decide +kernel) rfl rfl ?_
    refine x_getR (pc := 17) f8_11 rfl rfl (show decode mX8_even.2.1 17 = .ok (.getfield 11, 3) by decide +kernel) ?_
    refine x_iconst (pc := 20) (n := 5) (show decode mX8_even.2.1 20 = .ok (.iconst 5, 1) by decide +kernel) ?_
    refine x_iload_n (pc := 21) (show decode mX8_even.2.1 21 = .ok (.iload_n 2, 1) by decide +kernel) rfl rfl ?_
    refine x_iadd (pc := 22) (show decode mX8_even.2.1 22 = .ok (.iadd, 1) by decide +kernel) ?_
    obtain ⟨hg, hR⟩ := hR
    refine x_iald (pc := 23) rfl (by decide) hg (show decode mX8_even.2.1 23 = .ok (.iaload, 1) by decide +kernel) ?_
    refine x_aload_n (pc := 24) (show decode mX8_even.2.1 24 = .ok (.aload_n 0, 1) by decide +kernel) rfl rfl ?_
    refine x_getR (pc := 25) f8_11 rfl rfl (show decode mX8_even.2.1 25 = .ok (.getfield 11, 3) by decide +kernel) ?_
    refine x_iconst (pc := 28) (n := 0) (show decode mX8_even.2.1 28 = .ok (.iconst 0, 1) by decide +kernel) ?_
    refine x_iald (pc := 29) rfl (by decide) (by decide) (show decode mX8_even.2.1 29 = .ok (.iaload, 1) by decide +kernel) ?_
    refine x_iconst (pc := 30) (n := 2) (show decode mX8_even.2.1 30 = .ok (.iconst 2, 1) by decide +kernel) ?_
    refine x_isub (pc := 31) (show decode mX8_even.2.1 31 = .ok (.isub, 1) by decide +kernel) ?_
    refine x_aload_n (pc := 32) (show decode mX8_even.2.1 32 = .ok (.aload_n 0, 1) by decide +kernel) rfl rfl ?_
    refine x_getR (pc := 33) f8_11 rfl rfl (show decode mX8_even.2.1 33 = .ok (.getfield 11, 3) by decide +kernel) ?_
    refine x_bipush (pc := 36) (n := 35) (show decode mX8_even.2.1 36 = .ok (.bipush 35, 2) by decide +kernel) rfl ?_
    refine x_iload_n (pc := 38) (show decode mX8_even.2.1 38 = .ok (.iload_n 2, 1) by decide +kernel) rfl rfl ?_
    refine x_iadd (pc := 39) (show decode mX8_even.2.1 39 = .ok (.iadd, 1) by decide +kernel) ?_
    obtain ⟨hg, hR⟩ := hR
    refine x_iald (pc := 40) rfl (by decide) hg (show decode mX8_even.2.1 40 = .ok (.iaload, 1) by decide +kernel) ?_
    refine x_isub (pc := 41) (show decode mX8_even.2.1 41 = .ok (.isub, 1) by decide +kernel) ?_
    refine x_aload_n (pc := 42) (show decode mX8_even.2.1 42 = .ok (.aload_n 0, 1) by decide +kernel) rfl rfl ?_
    refine x_getR (pc := 43) f8_11 rfl rfl (show decode mX8_even.2.1 43 = .ok (.getfield 11, 3) by decide +kernel) ?_
    refine x_bipush (pc := 46) (n := 65) (show decode mX8_even.2.1 46 = .ok (.bipush 65, 2) by decide +kernel) rfl ?_
    refine x_iload_n (pc := 48) (show decode mX8_even.2.1 48 = .ok (.iload_n 2, 1) by decide +kernel) rfl rfl ?_
    refine x_iadd (pc := 49) (show decode mX8_even.2.1 49 = .ok (.iadd, 1) by decide +kernel) ?_
    obtain ⟨hg, hR⟩ := hR
    refine x_iald (pc := 50) rfl (by decide) hg (show decode mX8_even.2.1 50 = .ok (.iaload, 1) by decide +kernel) ?_
    refine x_callV (pc := 51) (As := [.inl (h 1 (5 + x2)), .inl (((h 1 0) - 2) - (h 1 (35 + x2))), .inl (h 1 (65 + x2))]) (rest := [.inl x1]) (lk8_109 rfl) im_X8_hasPin sl_X8_hasPin rfl rfl rfl (Nat.le_of_ble_eq_true rfl) (Nat.le_of_ble_eq_true rfl) (show decode mX8_even.2.1 51 = .ok (.invokevirtual 109, 3) by decide +kernel) hd hR (fun r9 h1 hq => ?_)
    obtain ⟨r2, rfl, hR⟩ := hq
    show xG _ _ _ 54 _ [.inl r2, .inl x1] _ _
    refine x_iand (pc := 54) (show decode mX8_even.2.1 54 = .ok (.iand, 1) by decide +kernel) ?_
    refine x_istore_n (pc := 55) (ls' := [some (.inr (.inr 0)), some (.inl (xandI x1 r2)), some (.inl x2)]) (show decode mX8_even.2.1 55 = .ok (.istore_n 1, 1) by decide +kernel) rfl (by decide) rfl ?_
    refine x_iinc (pc := 56) (ls' := [some (.inr (.inr 0)), some (.inl (xandI x1 r2)), some (.inl (x2 + 1))]) (show decode mX8_even.2.1 56 = .ok (.iinc 2 1, 3) by decide +kernel) (by decide) rfl rfl ?_
    refine x_goto (pc := 59) (tgt := 4) (show decode mX8_even.2.1 59 = .ok (.goto (-55), 3) by decide +kernel) (by decide) ?_
    exact hR
set_option maxRecDepth 4000 in
theorem sg_X8_even_64 {d : Nat} {x1 x2 : Int} {h : xH} {Q : Int → xH → Prop} (hd : 1 ≤ d)
    (hR : (inI x2 ∧ inI (h 1 2)) ∧ ((h 1 2) ≤ x2 → gI wdM d mX8_even 128 [some (.inr (.inr 0)), some (.inl x1), some (.inl 0)] h Q) ∧ (x2 < (h 1 2) → (0 ≤ (137 + x2) ∧ (137 + x2) < 1705) ∧ (0 ≤ (h 1 (137 + x2)) ∧ inI (h 1 (137 + x2))) ∧ (0 ≤ (137 + x2) ∧ (137 + x2) < 1705) ∧ (0 ≤ (h 1 (137 + x2)) ∧ inI (h 1 (137 + x2))) ∧ cI wdM (d - 1) mX8_hasTurn [.inr (.inr 0), .inl ((100 * (((h 1 0) - 1) - ((h 1 (137 + x2)) / 100))) + ((h 1 (137 + x2)) % 100))] h (fun r2 h1 => gI wdM d mX8_even 64 [some (.inr (.inr 0)), some (.inl (xandI x1 r2)), some (.inl (x2 + 1))] h1 Q))) :
    gI wdM d mX8_even 64 [some (.inr (.inr 0)), some (.inl x1), some (.inl x2)] h Q := by
  unfold gI
  refine x_iload_n (pc := 64) (show decode mX8_even.2.1 64 = .ok (.iload_n 2, 1) by decide +kernel) rfl rfl ?_
  refine x_aload_n (pc := 65) (show decode mX8_even.2.1 65 = .ok (.aload_n 0, 1) by decide +kernel) rfl rfl ?_
  refine x_getR (pc := 66) f8_11 rfl rfl (show decode mX8_even.2.1 66 = .ok (.getfield 11, 3) by decide +kernel) ?_
  refine x_iconst (pc := 69) (n := 2) (show decode mX8_even.2.1 69 = .ok (.iconst 2, 1) by decide +kernel) ?_
  refine x_iald (pc := 70) rfl (by decide) (by decide) (show decode mX8_even.2.1 70 = .ok (.iaload, 1) by decide +kernel) ?_
  obtain ⟨hg, hR⟩ := hR
  refine x_icmp_ge (pc := 71) (tgt := 126) (show decode mX8_even.2.1 71 = .ok (.if_icmp .ge 55, 3) by decide +kernel) (by decide) ⟨hg.1, hg.2⟩ (fun hc => ?_) (fun hc => ?_)
  · replace hR := hR.1 hc
    refine x_iconst (pc := 126) (n := 0) (show decode mX8_even.2.1 126 = .ok (.iconst 0, 1) by decide +kernel) ?_
    refine x_istore_n (pc := 127) (ls' := [some (.inr (.inr 0)), some (.inl x1), some (.inl 0)]) (show decode mX8_even.2.1 127 = .ok (.istore_n 2, 1) by decide +kernel) rfl (by decide) rfl ?_
    exact hR
  · replace hR := hR.2 hc
    refine x_iload_n (pc := 74) (show decode mX8_even.2.1 74 = .ok (.iload_n 1, 1) by decide +kernel) rfl rfl ?_
    refine x_aload_n (pc := 75) (show decode mX8_even.2.1 75 = .ok (.aload_n 0, 1) by decide +kernel) rfl rfl ?_
    refine x_bipush (pc := 76) (n := 100) (show decode mX8_even.2.1 76 = .ok (.bipush 100, 2) by decide +kernel) rfl ?_
    refine x_aload_n (pc := 78) (show decode mX8_even.2.1 78 = .ok (.aload_n 0, 1) by decide +kernel) rfl rfl ?_
    refine x_getR (pc := 79) f8_11 rfl rfl (show decode mX8_even.2.1 79 = .ok (.getfield 11, 3) by decide +kernel) ?_
    refine x_iconst (pc := 82) (n := 0) (show decode mX8_even.2.1 82 = .ok (.iconst 0, 1) by decide +kernel) ?_
    refine x_iald (pc := 83) rfl (by decide) (by decide) (show decode mX8_even.2.1 83 = .ok (.iaload, 1) by decide +kernel) ?_
    refine x_iconst (pc := 84) (n := 1) (show decode mX8_even.2.1 84 = .ok (.iconst 1, 1) by decide +kernel) ?_
    refine x_isub (pc := 85) (show decode mX8_even.2.1 85 = .ok (.isub, 1) by decide +kernel) ?_
    refine x_aload_n (pc := 86) (show decode mX8_even.2.1 86 = .ok (.aload_n 0, 1) by decide +kernel) rfl rfl ?_
    refine x_getR (pc := 87) f8_11 rfl rfl (show decode mX8_even.2.1 87 = .ok (.getfield 11, 3) by decide +kernel) ?_
    refine x_sipush (pc := 90) (n := 137) (show decode mX8_even.2.1 90 = .ok (.sipush 137, 3) by decide +kernel) rfl ?_
    refine x_iload_n (pc := 93) (show decode mX8_even.2.1 93 = .ok (.iload_n 2, 1) by decide +kernel) rfl rfl ?_
    refine x_iadd (pc := 94) (show decode mX8_even.2.1 94 = .ok (.iadd, 1) by decide +kernel) ?_
    obtain ⟨hg, hR⟩ := hR
    refine x_iald (pc := 95) rfl (by decide) hg (show decode mX8_even.2.1 95 = .ok (.iaload, 1) by decide +kernel) ?_
    refine x_bipush (pc := 96) (n := 100) (show decode mX8_even.2.1 96 = .ok (.bipush 100, 2) by decide +kernel) rfl ?_
    obtain ⟨hg, hR⟩ := hR
    refine x_idiv (pc := 98) (show decode mX8_even.2.1 98 = .ok (.idiv, 1) by decide +kernel) ⟨hg, by decide, by unfold inI; decide⟩ ?_
    refine x_isub (pc := 99) (show decode mX8_even.2.1 99 = .ok (.isub, 1) by decide +kernel) ?_
    refine x_imul (pc := 100) (show decode mX8_even.2.1 100 = .ok (.imul, 1) by decide +kernel) ?_
    refine x_aload_n (pc := 101) (show decode mX8_even.2.1 101 = .ok (.aload_n 0, 1) by decide +kernel) rfl rfl ?_
    refine x_getR (pc := 102) f8_11 rfl rfl (show decode mX8_even.2.1 102 = .ok (.getfield 11, 3) by decide +kernel) ?_
    refine x_sipush (pc := 105) (n := 137) (show decode mX8_even.2.1 105 = .ok (.sipush 137, 3) by decide +kernel) rfl ?_
    refine x_iload_n (pc := 108) (show decode mX8_even.2.1 108 = .ok (.iload_n 2, 1) by decide +kernel) rfl rfl ?_
    refine x_iadd (pc := 109) (show decode mX8_even.2.1 109 = .ok (.iadd, 1) by decide +kernel) ?_
    obtain ⟨hg, hR⟩ := hR
    refine x_iald (pc := 110) rfl (by decide) hg (show decode mX8_even.2.1 110 = .ok (.iaload, 1) by decide +kernel) ?_
    refine x_bipush (pc := 111) (n := 100) (show decode mX8_even.2.1 111 = .ok (.bipush 100, 2) by decide +kernel) rfl ?_
    obtain ⟨hg, hR⟩ := hR
    refine x_irem (pc := 113) (show decode mX8_even.2.1 113 = .ok (.irem, 1) by decide +kernel) ⟨hg, by decide, by unfold inI; decide⟩ ?_
    refine x_iadd (pc := 114) (show decode mX8_even.2.1 114 = .ok (.iadd, 1) by decide +kernel) ?_
    refine x_callV (pc := 115) (As := [.inl ((100 * (((h 1 0) - 1) - ((h 1 (137 + x2)) / 100))) + ((h 1 (137 + x2)) % 100))]) (rest := [.inl x1]) (lk8_113 rfl) im_X8_hasTurn sl_X8_hasTurn rfl rfl rfl (Nat.le_of_ble_eq_true rfl) (Nat.le_of_ble_eq_true rfl) (show decode mX8_even.2.1 115 = .ok (.invokevirtual 113, 3) by decide +kernel) hd hR (fun r9 h1 hq => ?_)
    obtain ⟨r2, rfl, hR⟩ := hq
    show xG _ _ _ 118 _ [.inl r2, .inl x1] _ _
    refine x_iand (pc := 118) (show decode mX8_even.2.1 118 = .ok (.iand, 1) by decide +kernel) ?_
    refine x_istore_n (pc := 119) (ls' := [some (.inr (.inr 0)), some (.inl (xandI x1 r2)), some (.inl x2)]) (show decode mX8_even.2.1 119 = .ok (.istore_n 1, 1) by decide +kernel) rfl (by decide) rfl ?_
    refine x_iinc (pc := 120) (ls' := [some (.inr (.inr 0)), some (.inl (xandI x1 r2)), some (.inl (x2 + 1))]) (show decode mX8_even.2.1 120 = .ok (.iinc 2 1, 3) by decide +kernel) (by decide) rfl rfl ?_
    refine x_goto (pc := 123) (tgt := 64) (show decode mX8_even.2.1 123 = .ok (.goto (-59), 3) by decide +kernel) (by decide) ?_
    exact hR
set_option maxRecDepth 4000 in
theorem sg_X8_even_128 {d : Nat} {x1 x2 : Int} {h : xH} {Q : Int → xH → Prop}
    (hR : (inI x2 ∧ inI (h 1 0)) ∧ ((h 1 0) ≤ x2 → (inI x1) ∧ (x1 = 0 → Q 0 h) ∧ (¬ x1 = 0 → Q 1 h)) ∧ (x2 < (h 1 0) → (0 ≤ (125 + x2) ∧ (125 + x2) < 1705) ∧ (0 ≤ (((125 + (h 1 0)) - 1) - x2) ∧ (((125 + (h 1 0)) - 1) - x2) < 1705) ∧ (inI (h 1 (125 + x2)) ∧ inI (h 1 (((125 + (h 1 0)) - 1) - x2))) ∧ (¬ (h 1 (125 + x2)) = (h 1 (((125 + (h 1 0)) - 1) - x2)) → gI wdM d mX8_even 128 [some (.inr (.inr 0)), some (.inl (xandI x1 0)), some (.inl (x2 + 1))] h Q) ∧ ((h 1 (125 + x2)) = (h 1 (((125 + (h 1 0)) - 1) - x2)) → gI wdM d mX8_even 128 [some (.inr (.inr 0)), some (.inl (xandI x1 1)), some (.inl (x2 + 1))] h Q))) :
    gI wdM d mX8_even 128 [some (.inr (.inr 0)), some (.inl x1), some (.inl x2)] h Q := by
  unfold gI
  refine x_iload_n (pc := 128) (show decode mX8_even.2.1 128 = .ok (.iload_n 2, 1) by decide +kernel) rfl rfl ?_
  refine x_aload_n (pc := 129) (show decode mX8_even.2.1 129 = .ok (.aload_n 0, 1) by decide +kernel) rfl rfl ?_
  refine x_getR (pc := 130) f8_11 rfl rfl (show decode mX8_even.2.1 130 = .ok (.getfield 11, 3) by decide +kernel) ?_
  refine x_iconst (pc := 133) (n := 0) (show decode mX8_even.2.1 133 = .ok (.iconst 0, 1) by decide +kernel) ?_
  refine x_iald (pc := 134) rfl (by decide) (by decide) (show decode mX8_even.2.1 134 = .ok (.iaload, 1) by decide +kernel) ?_
  obtain ⟨hg, hR⟩ := hR
  refine x_icmp_ge (pc := 135) (tgt := 182) (show decode mX8_even.2.1 135 = .ok (.if_icmp .ge 47, 3) by decide +kernel) (by decide) ⟨hg.1, hg.2⟩ (fun hc => ?_) (fun hc => ?_)
  · replace hR := hR.1 hc
    refine x_iload_n (pc := 182) (show decode mX8_even.2.1 182 = .ok (.iload_n 1, 1) by decide +kernel) rfl rfl ?_
    obtain ⟨hg, hR⟩ := hR
    refine x_if_eq (pc := 183) (tgt := 190) (show decode mX8_even.2.1 183 = .ok (.ifCond .eq 7, 3) by decide +kernel) (by decide) hg (fun hc => ?_) (fun hc => ?_)
    · replace hR := hR.1 hc
      refine x_iconst (pc := 190) (n := 0) (show decode mX8_even.2.1 190 = .ok (.iconst 0, 1) by decide +kernel) ?_
      exact x_iret (pc := 191) rfl (show decode mX8_even.2.1 191 = .ok (.ireturn, 1) by decide +kernel) ⟨_, rfl, hR⟩
    · replace hR := hR.2 hc
      refine x_iconst (pc := 186) (n := 1) (show decode mX8_even.2.1 186 = .ok (.iconst 1, 1) by decide +kernel) ?_
      refine x_goto (pc := 187) (tgt := 191) (show decode mX8_even.2.1 187 = .ok (.goto 4, 3) by decide +kernel) (by decide) ?_
      exact x_iret (pc := 191) rfl (show decode mX8_even.2.1 191 = .ok (.ireturn, 1) by decide +kernel) ⟨_, rfl, hR⟩
  · replace hR := hR.2 hc
    refine x_iload_n (pc := 138) (show decode mX8_even.2.1 138 = .ok (.iload_n 1, 1) by decide +kernel) rfl rfl ?_
    refine x_aload_n (pc := 139) (show decode mX8_even.2.1 139 = .ok (.aload_n 0, 1) by decide +kernel) rfl rfl ?_
    refine x_getR (pc := 140) f8_11 rfl rfl (show decode mX8_even.2.1 140 = .ok (.getfield 11, 3) by decide +kernel) ?_
    refine x_bipush (pc := 143) (n := 125) (show decode mX8_even.2.1 143 = .ok (.bipush 125, 2) by decide +kernel) rfl ?_
    refine x_iload_n (pc := 145) (show decode mX8_even.2.1 145 = .ok (.iload_n 2, 1) by decide +kernel) rfl rfl ?_
    refine x_iadd (pc := 146) (show decode mX8_even.2.1 146 = .ok (.iadd, 1) by decide +kernel) ?_
    obtain ⟨hg, hR⟩ := hR
    refine x_iald (pc := 147) rfl (by decide) hg (show decode mX8_even.2.1 147 = .ok (.iaload, 1) by decide +kernel) ?_
    refine x_aload_n (pc := 148) (show decode mX8_even.2.1 148 = .ok (.aload_n 0, 1) by decide +kernel) rfl rfl ?_
    refine x_getR (pc := 149) f8_11 rfl rfl (show decode mX8_even.2.1 149 = .ok (.getfield 11, 3) by decide +kernel) ?_
    refine x_bipush (pc := 152) (n := 125) (show decode mX8_even.2.1 152 = .ok (.bipush 125, 2) by decide +kernel) rfl ?_
    refine x_aload_n (pc := 154) (show decode mX8_even.2.1 154 = .ok (.aload_n 0, 1) by decide +kernel) rfl rfl ?_
    refine x_getR (pc := 155) f8_11 rfl rfl (show decode mX8_even.2.1 155 = .ok (.getfield 11, 3) by decide +kernel) ?_
    refine x_iconst (pc := 158) (n := 0) (show decode mX8_even.2.1 158 = .ok (.iconst 0, 1) by decide +kernel) ?_
    refine x_iald (pc := 159) rfl (by decide) (by decide) (show decode mX8_even.2.1 159 = .ok (.iaload, 1) by decide +kernel) ?_
    refine x_iadd (pc := 160) (show decode mX8_even.2.1 160 = .ok (.iadd, 1) by decide +kernel) ?_
    refine x_iconst (pc := 161) (n := 1) (show decode mX8_even.2.1 161 = .ok (.iconst 1, 1) by decide +kernel) ?_
    refine x_isub (pc := 162) (show decode mX8_even.2.1 162 = .ok (.isub, 1) by decide +kernel) ?_
    refine x_iload_n (pc := 163) (show decode mX8_even.2.1 163 = .ok (.iload_n 2, 1) by decide +kernel) rfl rfl ?_
    refine x_isub (pc := 164) (show decode mX8_even.2.1 164 = .ok (.isub, 1) by decide +kernel) ?_
    obtain ⟨hg, hR⟩ := hR
    refine x_iald (pc := 165) rfl (by decide) hg (show decode mX8_even.2.1 165 = .ok (.iaload, 1) by decide +kernel) ?_
    obtain ⟨hg, hR⟩ := hR
    refine x_icmp_ne (pc := 166) (tgt := 173) (show decode mX8_even.2.1 166 = .ok (.if_icmp .ne 7, 3) by decide +kernel) (by decide) ⟨hg.1, hg.2⟩ (fun hc => ?_) (fun hc => ?_)
    · replace hR := hR.1 hc
      refine x_iconst (pc := 173) (n := 0) (show decode mX8_even.2.1 173 = .ok (.iconst 0, 1) by decide +kernel) ?_
      refine x_iand (pc := 174) (show decode mX8_even.2.1 174 = .ok (.iand, 1) by decide +kernel) ?_
      refine x_istore_n (pc := 175) (ls' := [some (.inr (.inr 0)), some (.inl (xandI x1 0)), some (.inl x2)]) (show decode mX8_even.2.1 175 = .ok (.istore_n 1, 1) by decide +kernel) rfl (by decide) rfl ?_
      refine x_iinc (pc := 176) (ls' := [some (.inr (.inr 0)), some (.inl (xandI x1 0)), some (.inl (x2 + 1))]) (show decode mX8_even.2.1 176 = .ok (.iinc 2 1, 3) by decide +kernel) (by decide) rfl rfl ?_
      refine x_goto (pc := 179) (tgt := 128) (show decode mX8_even.2.1 179 = .ok (.goto (-51), 3) by decide +kernel) (by decide) ?_
      exact hR
    · replace hR := hR.2 hc
      refine x_iconst (pc := 169) (n := 1) (show decode mX8_even.2.1 169 = .ok (.iconst 1, 1) by decide +kernel) ?_
      refine x_goto (pc := 170) (tgt := 174) (show decode mX8_even.2.1 170 = .ok (.goto 4, 3) by decide +kernel) (by decide) ?_
      refine x_iand (pc := 174) (show decode mX8_even.2.1 174 = .ok (.iand, 1) by decide +kernel) ?_
      refine x_istore_n (pc := 175) (ls' := [some (.inr (.inr 0)), some (.inl (xandI x1 1)), some (.inl x2)]) (show decode mX8_even.2.1 175 = .ok (.istore_n 1, 1) by decide +kernel) rfl (by decide) rfl ?_
      refine x_iinc (pc := 176) (ls' := [some (.inr (.inr 0)), some (.inl (xandI x1 1)), some (.inl (x2 + 1))]) (show decode mX8_even.2.1 176 = .ok (.iinc 2 1, 3) by decide +kernel) (by decide) rfl rfl ?_
      refine x_goto (pc := 179) (tgt := 128) (show decode mX8_even.2.1 179 = .ok (.goto (-51), 3) by decide +kernel) (by decide) ?_
      exact hR
set_option maxRecDepth 4000 in
theorem sg_X8_ahead_0 {d : Nat} {x1 x2 : Int} {h : xH} {Q : Int → xH → Prop}
    (hR : gI wdM d mX8_ahead 5 [some (.inr (.inr 0)), some (.inl x1), some (.inl x2), some (.inl (-1)), some (.inl 0)] h Q) :
    gI wdM d mX8_ahead 0 [some (.inr (.inr 0)), some (.inl x1), some (.inl x2), none, none] h Q := by
  unfold gI
  refine x_iconst (pc := 0) (n := (-1)) (show decode mX8_ahead.2.1 0 = .ok (.iconst (-1), 1) by decide +kernel) ?_
  refine x_istore_n (pc := 1) (ls' := [some (.inr (.inr 0)), some (.inl x1), some (.inl x2), some (.inl (-1)), none]) (show decode mX8_ahead.2.1 1 = .ok (.istore_n 3, 1) by decide +kernel) rfl (by decide) rfl ?_
  refine x_iconst (pc := 2) (n := 0) (show decode mX8_ahead.2.1 2 = .ok (.iconst 0, 1) by decide +kernel) ?_
  refine x_istore (pc := 3) (ls' := [some (.inr (.inr 0)), some (.inl x1), some (.inl x2), some (.inl (-1)), some (.inl 0)]) (show decode mX8_ahead.2.1 3 = .ok (.istore 4, 2) by decide +kernel) (by decide) rfl ?_
  exact hR
set_option maxRecDepth 4000 in
theorem sg_X8_ahead_5 {d : Nat} {x1 x2 x3 x4 : Int} {h : xH} {Q : Int → xH → Prop} (hd : 1 ≤ d)
    (hR : (inI x4 ∧ inI (h 1 1)) ∧ ((h 1 1) ≤ x4 → Q x3 h) ∧ (x4 < (h 1 1) → (0 ≤ (5 + x4) ∧ (5 + x4) < 1705) ∧ (0 ≤ (5 + x1) ∧ (5 + x1) < 1705) ∧ (inI (h 1 (5 + x4)) ∧ inI (h 1 (5 + x1))) ∧ ((h 1 (5 + x1)) ≤ (h 1 (5 + x4)) → gI wdM d mX8_ahead 5 [some (.inr (.inr 0)), some (.inl x1), some (.inl x2), some (.inl x3), some (.inl (x4 + 1))] h Q) ∧ ((h 1 (5 + x4)) < (h 1 (5 + x1)) → cB wdM (d - 1) mX8_shares [.inr (.inr 0), .inl x4, .inl x2] h (fun h1 => (inI x3) ∧ (x3 < 0 → gI wdM d mX8_ahead 5 [some (.inr (.inr 0)), some (.inl x1), some (.inl x2), some (.inl x4), some (.inl (x4 + 1))] h1 Q) ∧ (0 ≤ x3 → (0 ≤ (5 + x4) ∧ (5 + x4) < 1705) ∧ (0 ≤ (5 + x3) ∧ (5 + x3) < 1705) ∧ (inI (h1 1 (5 + x4)) ∧ inI (h1 1 (5 + x3))) ∧ ((h1 1 (5 + x4)) ≤ (h1 1 (5 + x3)) → gI wdM d mX8_ahead 5 [some (.inr (.inr 0)), some (.inl x1), some (.inl x2), some (.inl x3), some (.inl (x4 + 1))] h1 Q) ∧ ((h1 1 (5 + x3)) < (h1 1 (5 + x4)) → gI wdM d mX8_ahead 5 [some (.inr (.inr 0)), some (.inl x1), some (.inl x2), some (.inl x4), some (.inl (x4 + 1))] h1 Q))) (fun h1 => gI wdM d mX8_ahead 5 [some (.inr (.inr 0)), some (.inl x1), some (.inl x2), some (.inl x3), some (.inl (x4 + 1))] h1 Q)))) :
    gI wdM d mX8_ahead 5 [some (.inr (.inr 0)), some (.inl x1), some (.inl x2), some (.inl x3), some (.inl x4)] h Q := by
  unfold gI
  refine x_iload (pc := 5) (show decode mX8_ahead.2.1 5 = .ok (.iload 4, 2) by decide +kernel) rfl ?_
  refine x_aload_n (pc := 7) (show decode mX8_ahead.2.1 7 = .ok (.aload_n 0, 1) by decide +kernel) rfl rfl ?_
  refine x_getR (pc := 8) f8_11 rfl rfl (show decode mX8_ahead.2.1 8 = .ok (.getfield 11, 3) by decide +kernel) ?_
  refine x_iconst (pc := 11) (n := 1) (show decode mX8_ahead.2.1 11 = .ok (.iconst 1, 1) by decide +kernel) ?_
  refine x_iald (pc := 12) rfl (by decide) (by decide) (show decode mX8_ahead.2.1 12 = .ok (.iaload, 1) by decide +kernel) ?_
  obtain ⟨hg, hR⟩ := hR
  refine x_icmp_ge (pc := 13) (tgt := 79) (show decode mX8_ahead.2.1 13 = .ok (.if_icmp .ge 66, 3) by decide +kernel) (by decide) ⟨hg.1, hg.2⟩ (fun hc => ?_) (fun hc => ?_)
  · replace hR := hR.1 hc
    refine x_iload_n (pc := 79) (show decode mX8_ahead.2.1 79 = .ok (.iload_n 3, 1) by decide +kernel) rfl rfl ?_
    exact x_iret (pc := 80) rfl (show decode mX8_ahead.2.1 80 = .ok (.ireturn, 1) by decide +kernel) ⟨_, rfl, hR⟩
  · replace hR := hR.2 hc
    refine x_aload_n (pc := 16) (show decode mX8_ahead.2.1 16 = .ok (.aload_n 0, 1) by decide +kernel) rfl rfl ?_
    refine x_getR (pc := 17) f8_11 rfl rfl (show decode mX8_ahead.2.1 17 = .ok (.getfield 11, 3) by decide +kernel) ?_
    refine x_iconst (pc := 20) (n := 5) (show decode mX8_ahead.2.1 20 = .ok (.iconst 5, 1) by decide +kernel) ?_
    refine x_iload (pc := 21) (show decode mX8_ahead.2.1 21 = .ok (.iload 4, 2) by decide +kernel) rfl ?_
    refine x_iadd (pc := 23) (show decode mX8_ahead.2.1 23 = .ok (.iadd, 1) by decide +kernel) ?_
    obtain ⟨hg, hR⟩ := hR
    refine x_iald (pc := 24) rfl (by decide) hg (show decode mX8_ahead.2.1 24 = .ok (.iaload, 1) by decide +kernel) ?_
    refine x_aload_n (pc := 25) (show decode mX8_ahead.2.1 25 = .ok (.aload_n 0, 1) by decide +kernel) rfl rfl ?_
    refine x_getR (pc := 26) f8_11 rfl rfl (show decode mX8_ahead.2.1 26 = .ok (.getfield 11, 3) by decide +kernel) ?_
    refine x_iconst (pc := 29) (n := 5) (show decode mX8_ahead.2.1 29 = .ok (.iconst 5, 1) by decide +kernel) ?_
    refine x_iload_n (pc := 30) (show decode mX8_ahead.2.1 30 = .ok (.iload_n 1, 1) by decide +kernel) rfl rfl ?_
    refine x_iadd (pc := 31) (show decode mX8_ahead.2.1 31 = .ok (.iadd, 1) by decide +kernel) ?_
    obtain ⟨hg, hR⟩ := hR
    refine x_iald (pc := 32) rfl (by decide) hg (show decode mX8_ahead.2.1 32 = .ok (.iaload, 1) by decide +kernel) ?_
    obtain ⟨hg, hR⟩ := hR
    refine x_icmp_ge (pc := 33) (tgt := 73) (show decode mX8_ahead.2.1 33 = .ok (.if_icmp .ge 40, 3) by decide +kernel) (by decide) ⟨hg.1, hg.2⟩ (fun hc => ?_) (fun hc => ?_)
    · replace hR := hR.1 hc
      refine x_iinc (pc := 73) (ls' := [some (.inr (.inr 0)), some (.inl x1), some (.inl x2), some (.inl x3), some (.inl (x4 + 1))]) (show decode mX8_ahead.2.1 73 = .ok (.iinc 4 1, 3) by decide +kernel) (by decide) rfl rfl ?_
      refine x_goto (pc := 76) (tgt := 5) (show decode mX8_ahead.2.1 76 = .ok (.goto (-71), 3) by decide +kernel) (by decide) ?_
      exact hR
    · replace hR := hR.2 hc
      refine x_aload_n (pc := 36) (show decode mX8_ahead.2.1 36 = .ok (.aload_n 0, 1) by decide +kernel) rfl rfl ?_
      refine x_iload (pc := 37) (show decode mX8_ahead.2.1 37 = .ok (.iload 4, 2) by decide +kernel) rfl ?_
      refine x_iload_n (pc := 39) (show decode mX8_ahead.2.1 39 = .ok (.iload_n 2, 1) by decide +kernel) rfl rfl ?_
      refine x_callV (pc := 40) (As := [.inl x4, .inl x2]) (rest := []) (lk8_91 rfl) im_X8_shares sl_X8_shares rfl rfl rfl (Nat.le_of_ble_eq_true rfl) (Nat.le_of_ble_eq_true rfl) (show decode mX8_ahead.2.1 40 = .ok (.invokevirtual 91, 3) by decide +kernel) hd hR (fun r9 h1 hq => ?_)
      obtain ⟨r8, rfl, hq⟩ := hq
      rcases hq with ⟨rfl, hR⟩ | ⟨rfl, hR⟩
      · show xG _ _ _ 43 _ [.inl 1] _ _
        refine x_if_eq (pc := 43) (tgt := 73) (show decode mX8_ahead.2.1 43 = .ok (.ifCond .eq 30, 3) by decide +kernel) (by decide) (by unfold inI; decide) (fun hc => absurd hc (by decide)) (fun _ => ?_)
        refine x_iload_n (pc := 46) (show decode mX8_ahead.2.1 46 = .ok (.iload_n 3, 1) by decide +kernel) rfl rfl ?_
        obtain ⟨hg, hR⟩ := hR
        refine x_if_lt (pc := 47) (tgt := 70) (show decode mX8_ahead.2.1 47 = .ok (.ifCond .lt 23, 3) by decide +kernel) (by decide) hg (fun hc => ?_) (fun hc => ?_)
        · replace hR := hR.1 hc
          refine x_iload (pc := 70) (show decode mX8_ahead.2.1 70 = .ok (.iload 4, 2) by decide +kernel) rfl ?_
          refine x_istore_n (pc := 72) (ls' := [some (.inr (.inr 0)), some (.inl x1), some (.inl x2), some (.inl x4), some (.inl x4)]) (show decode mX8_ahead.2.1 72 = .ok (.istore_n 3, 1) by decide +kernel) rfl (by decide) rfl ?_
          refine x_iinc (pc := 73) (ls' := [some (.inr (.inr 0)), some (.inl x1), some (.inl x2), some (.inl x4), some (.inl (x4 + 1))]) (show decode mX8_ahead.2.1 73 = .ok (.iinc 4 1, 3) by decide +kernel) (by decide) rfl rfl ?_
          refine x_goto (pc := 76) (tgt := 5) (show decode mX8_ahead.2.1 76 = .ok (.goto (-71), 3) by decide +kernel) (by decide) ?_
          exact hR
        · replace hR := hR.2 hc
          refine x_aload_n (pc := 50) (show decode mX8_ahead.2.1 50 = .ok (.aload_n 0, 1) by decide +kernel) rfl rfl ?_
          refine x_getR (pc := 51) f8_11 rfl rfl (show decode mX8_ahead.2.1 51 = .ok (.getfield 11, 3) by decide +kernel) ?_
          refine x_iconst (pc := 54) (n := 5) (show decode mX8_ahead.2.1 54 = .ok (.iconst 5, 1) by decide +kernel) ?_
          refine x_iload (pc := 55) (show decode mX8_ahead.2.1 55 = .ok (.iload 4, 2) by decide +kernel) rfl ?_
          refine x_iadd (pc := 57) (show decode mX8_ahead.2.1 57 = .ok (.iadd, 1) by decide +kernel) ?_
          obtain ⟨hg, hR⟩ := hR
          refine x_iald (pc := 58) rfl (by decide) hg (show decode mX8_ahead.2.1 58 = .ok (.iaload, 1) by decide +kernel) ?_
          refine x_aload_n (pc := 59) (show decode mX8_ahead.2.1 59 = .ok (.aload_n 0, 1) by decide +kernel) rfl rfl ?_
          refine x_getR (pc := 60) f8_11 rfl rfl (show decode mX8_ahead.2.1 60 = .ok (.getfield 11, 3) by decide +kernel) ?_
          refine x_iconst (pc := 63) (n := 5) (show decode mX8_ahead.2.1 63 = .ok (.iconst 5, 1) by decide +kernel) ?_
          refine x_iload_n (pc := 64) (show decode mX8_ahead.2.1 64 = .ok (.iload_n 3, 1) by decide +kernel) rfl rfl ?_
          refine x_iadd (pc := 65) (show decode mX8_ahead.2.1 65 = .ok (.iadd, 1) by decide +kernel) ?_
          obtain ⟨hg, hR⟩ := hR
          refine x_iald (pc := 66) rfl (by decide) hg (show decode mX8_ahead.2.1 66 = .ok (.iaload, 1) by decide +kernel) ?_
          obtain ⟨hg, hR⟩ := hR
          refine x_icmp_le (pc := 67) (tgt := 73) (show decode mX8_ahead.2.1 67 = .ok (.if_icmp .le 6, 3) by decide +kernel) (by decide) ⟨hg.1, hg.2⟩ (fun hc => ?_) (fun hc => ?_)
          · replace hR := hR.1 hc
            refine x_iinc (pc := 73) (ls' := [some (.inr (.inr 0)), some (.inl x1), some (.inl x2), some (.inl x3), some (.inl (x4 + 1))]) (show decode mX8_ahead.2.1 73 = .ok (.iinc 4 1, 3) by decide +kernel) (by decide) rfl rfl ?_
            refine x_goto (pc := 76) (tgt := 5) (show decode mX8_ahead.2.1 76 = .ok (.goto (-71), 3) by decide +kernel) (by decide) ?_
            exact hR
          · replace hR := hR.2 hc
            refine x_iload (pc := 70) (show decode mX8_ahead.2.1 70 = .ok (.iload 4, 2) by decide +kernel) rfl ?_
            refine x_istore_n (pc := 72) (ls' := [some (.inr (.inr 0)), some (.inl x1), some (.inl x2), some (.inl x4), some (.inl x4)]) (show decode mX8_ahead.2.1 72 = .ok (.istore_n 3, 1) by decide +kernel) rfl (by decide) rfl ?_
            refine x_iinc (pc := 73) (ls' := [some (.inr (.inr 0)), some (.inl x1), some (.inl x2), some (.inl x4), some (.inl (x4 + 1))]) (show decode mX8_ahead.2.1 73 = .ok (.iinc 4 1, 3) by decide +kernel) (by decide) rfl rfl ?_
            refine x_goto (pc := 76) (tgt := 5) (show decode mX8_ahead.2.1 76 = .ok (.goto (-71), 3) by decide +kernel) (by decide) ?_
            exact hR
      · show xG _ _ _ 43 _ [.inl 0] _ _
        refine x_if_eq (pc := 43) (tgt := 73) (show decode mX8_ahead.2.1 43 = .ok (.ifCond .eq 30, 3) by decide +kernel) (by decide) (by unfold inI; decide) (fun _ => ?_) (fun hc => absurd hc (by decide))
        refine x_iinc (pc := 73) (ls' := [some (.inr (.inr 0)), some (.inl x1), some (.inl x2), some (.inl x3), some (.inl (x4 + 1))]) (show decode mX8_ahead.2.1 73 = .ok (.iinc 4 1, 3) by decide +kernel) (by decide) rfl rfl ?_
        refine x_goto (pc := 76) (tgt := 5) (show decode mX8_ahead.2.1 76 = .ok (.goto (-71), 3) by decide +kernel) (by decide) ?_
        exact hR
set_option maxRecDepth 4000 in
theorem sg_X8_finds_0 {d : Nat} {x1 : Int} {h : xH} {Q : xH → Prop}
    (hR : (0 ≤ x1 ∧ x1 < 30) ∧ (0 ≤ x1 ∧ x1 < 30) ∧ (0 ≤ x1 ∧ x1 < 30) ∧ gV wdM d mX8_finds 23 [some (.inr (.inr 0)), some (.inl x1), some (.inl 0), none] (xu (xu (xu h 4 x1 0) 5 x1 0) 7 x1 0) Q) :
    gV wdM d mX8_finds 0 [some (.inr (.inr 0)), some (.inl x1), none, none] h Q := by
  unfold gV
  refine x_aload_n (pc := 0) (show decode mX8_finds.2.1 0 = .ok (.aload_n 0, 1) by decide +kernel) rfl rfl ?_
  refine x_getR (pc := 1) f8_21 rfl rfl (show decode mX8_finds.2.1 1 = .ok (.getfield 21, 3) by decide +kernel) ?_
  refine x_iload_n (pc := 4) (show decode mX8_finds.2.1 4 = .ok (.iload_n 1, 1) by decide +kernel) rfl rfl ?_
  refine x_lconst (pc := 5) (v := 0) (show decode mX8_finds.2.1 5 = .ok (.lconst 0, 1) by decide +kernel) rfl ?_
  obtain ⟨hg, hR⟩ := hR
  refine x_last (pc := 6) rfl (by decide) hg (show decode mX8_finds.2.1 6 = .ok (.lastore, 1) by decide +kernel) ?_
  refine x_aload_n (pc := 7) (show decode mX8_finds.2.1 7 = .ok (.aload_n 0, 1) by decide +kernel) rfl rfl ?_
  refine x_getR (pc := 8) f8_25 rfl rfl (show decode mX8_finds.2.1 8 = .ok (.getfield 25, 3) by decide +kernel) ?_
  refine x_iload_n (pc := 11) (show decode mX8_finds.2.1 11 = .ok (.iload_n 1, 1) by decide +kernel) rfl rfl ?_
  refine x_lconst (pc := 12) (v := 0) (show decode mX8_finds.2.1 12 = .ok (.lconst 0, 1) by decide +kernel) rfl ?_
  obtain ⟨hg, hR⟩ := hR
  refine x_last (pc := 13) rfl (by decide) hg (show decode mX8_finds.2.1 13 = .ok (.lastore, 1) by decide +kernel) ?_
  refine x_aload_n (pc := 14) (show decode mX8_finds.2.1 14 = .ok (.aload_n 0, 1) by decide +kernel) rfl rfl ?_
  refine x_getR (pc := 15) f8_31 rfl rfl (show decode mX8_finds.2.1 15 = .ok (.getfield 31, 3) by decide +kernel) ?_
  refine x_iload_n (pc := 18) (show decode mX8_finds.2.1 18 = .ok (.iload_n 1, 1) by decide +kernel) rfl rfl ?_
  refine x_iconst (pc := 19) (n := 0) (show decode mX8_finds.2.1 19 = .ok (.iconst 0, 1) by decide +kernel) ?_
  obtain ⟨hg, hR⟩ := hR
  refine x_iast (pc := 20) rfl (by decide) hg (show decode mX8_finds.2.1 20 = .ok (.iastore, 1) by decide +kernel) ?_
  refine x_iconst (pc := 21) (n := 0) (show decode mX8_finds.2.1 21 = .ok (.iconst 0, 1) by decide +kernel) ?_
  refine x_istore_n (pc := 22) (ls' := [some (.inr (.inr 0)), some (.inl x1), some (.inl 0), none]) (show decode mX8_finds.2.1 22 = .ok (.istore_n 2, 1) by decide +kernel) rfl (by decide) rfl ?_
  exact hR
set_option maxRecDepth 4000 in
theorem sg_X8_finds_23 {d : Nat} {x1 x2 : Int} {h : xH} {Q : xH → Prop} (hd : 1 ≤ d)
    (hR : (inI x2) ∧ (2 ≤ x2 → Q h) ∧ (x2 < 2 → (0 ≤ (35 + x1) ∧ (35 + x1) < 1705) ∧ cI wdM (d - 1) mX8_ahead [.inr (.inr 0), .inl x1, .inl ((h 1 (35 + x1)) + x2)] h (fun r2 h1 => (inI r2) ∧ (0 ≤ r2 → (0 ≤ x1 ∧ x1 < 30) ∧ (0 ≤ r2 ∧ r2 ≤ 63) ∧ (0 ≤ x1 ∧ x1 < 30) ∧ (0 ≤ x1 ∧ x1 < 30) ∧ (0 ≤ r2 ∧ r2 ≤ 63) ∧ (0 ≤ r2 ∧ r2 < 30) ∧ (0 ≤ x1 ∧ x1 < 30) ∧ (0 ≤ x1 ∧ x1 < 30) ∧ (0 ≤ r2 ∧ r2 < 30) ∧ (inI (h1 7 x1) ∧ inI ((h1 7 r2) + 1)) ∧ (0 ≤ x1 ∧ x1 < 30) ∧ gV wdM d mX8_finds 23 [some (.inr (.inr 0)), some (.inl x1), some (.inl (x2 + 1)), none] (xu (xu (xu h1 4 x1 (xorL (h1 4 x1) (1 * 2 ^ (Int.toNat r2)))) 5 x1 (xorL (h1 5 x1) (xorL (1 * 2 ^ (Int.toNat r2)) (h1 5 r2)))) 7 x1 (max (h1 7 x1) ((h1 7 r2) + 1))) Q) ∧ (r2 < 0 → gV wdM d mX8_finds 23 [some (.inr (.inr 0)), some (.inl x1), some (.inl (x2 + 1)), none] h1 Q)))) :
    gV wdM d mX8_finds 23 [some (.inr (.inr 0)), some (.inl x1), some (.inl x2), none] h Q := by
  unfold gV
  refine x_iload_n (pc := 23) (show decode mX8_finds.2.1 23 = .ok (.iload_n 2, 1) by decide +kernel) rfl rfl ?_
  refine x_iconst (pc := 24) (n := 2) (show decode mX8_finds.2.1 24 = .ok (.iconst 2, 1) by decide +kernel) ?_
  obtain ⟨hg, hR⟩ := hR
  refine x_icmp_ge (pc := 25) (tgt := 112) (show decode mX8_finds.2.1 25 = .ok (.if_icmp .ge 87, 3) by decide +kernel) (by decide) ⟨hg, (by unfold inI; decide)⟩ (fun hc => ?_) (fun hc => ?_)
  · replace hR := hR.1 hc
    exact x_vret (pc := 112) rfl (show decode mX8_finds.2.1 112 = .ok (.return_, 1) by decide +kernel) ⟨rfl, hR⟩
  · replace hR := hR.2 hc
    refine x_aload_n (pc := 28) (show decode mX8_finds.2.1 28 = .ok (.aload_n 0, 1) by decide +kernel) rfl rfl ?_
    refine x_iload_n (pc := 29) (show decode mX8_finds.2.1 29 = .ok (.iload_n 1, 1) by decide +kernel) rfl rfl ?_
    refine x_aload_n (pc := 30) (show decode mX8_finds.2.1 30 = .ok (.aload_n 0, 1) by decide +kernel) rfl rfl ?_
    refine x_getR (pc := 31) f8_11 rfl rfl (show decode mX8_finds.2.1 31 = .ok (.getfield 11, 3) by decide +kernel) ?_
    refine x_bipush (pc := 34) (n := 35) (show decode mX8_finds.2.1 34 = .ok (.bipush 35, 2) by decide +kernel) rfl ?_
    refine x_iload_n (pc := 36) (show decode mX8_finds.2.1 36 = .ok (.iload_n 1, 1) by decide +kernel) rfl rfl ?_
    refine x_iadd (pc := 37) (show decode mX8_finds.2.1 37 = .ok (.iadd, 1) by decide +kernel) ?_
    obtain ⟨hg, hR⟩ := hR
    refine x_iald (pc := 38) rfl (by decide) hg (show decode mX8_finds.2.1 38 = .ok (.iaload, 1) by decide +kernel) ?_
    refine x_iload_n (pc := 39) (show decode mX8_finds.2.1 39 = .ok (.iload_n 2, 1) by decide +kernel) rfl rfl ?_
    refine x_iadd (pc := 40) (show decode mX8_finds.2.1 40 = .ok (.iadd, 1) by decide +kernel) ?_
    refine x_callV (pc := 41) (As := [.inl x1, .inl ((h 1 (35 + x1)) + x2)]) (rest := []) (lk8_116 rfl) im_X8_ahead sl_X8_ahead rfl rfl rfl (Nat.le_of_ble_eq_true rfl) (Nat.le_of_ble_eq_true rfl) (show decode mX8_finds.2.1 41 = .ok (.invokevirtual 116, 3) by decide +kernel) hd hR (fun r9 h1 hq => ?_)
    obtain ⟨r2, rfl, hR⟩ := hq
    show xG _ _ _ 44 _ [.inl r2] _ _
    refine x_istore_n (pc := 44) (ls' := [some (.inr (.inr 0)), some (.inl x1), some (.inl x2), some (.inl r2)]) (show decode mX8_finds.2.1 44 = .ok (.istore_n 3, 1) by decide +kernel) rfl (by decide) rfl ?_
    refine x_iload_n (pc := 45) (show decode mX8_finds.2.1 45 = .ok (.iload_n 3, 1) by decide +kernel) rfl rfl ?_
    obtain ⟨hg, hR⟩ := hR
    refine x_if_ge (pc := 46) (tgt := 52) (show decode mX8_finds.2.1 46 = .ok (.ifCond .ge 6, 3) by decide +kernel) (by decide) hg (fun hc => ?_) (fun hc => ?_)
    · replace hR := hR.1 hc
      refine x_aload_n (pc := 52) (show decode mX8_finds.2.1 52 = .ok (.aload_n 0, 1) by decide +kernel) rfl rfl ?_
      refine x_getR (pc := 53) f8_21 rfl rfl (show decode mX8_finds.2.1 53 = .ok (.getfield 21, 3) by decide +kernel) ?_
      refine x_iload_n (pc := 56) (show decode mX8_finds.2.1 56 = .ok (.iload_n 1, 1) by decide +kernel) rfl rfl ?_
      refine x_dup2 (pc := 57) (show decode mX8_finds.2.1 57 = .ok (.dup2, 1) by decide +kernel) rfl rfl ?_
      obtain ⟨hg, hR⟩ := hR
      refine x_lald (pc := 58) rfl (by decide) hg (show decode mX8_finds.2.1 58 = .ok (.laload, 1) by decide +kernel) ?_
      refine x_lconst (pc := 59) (v := 1) (show decode mX8_finds.2.1 59 = .ok (.lconst 1, 1) by decide +kernel) rfl ?_
      refine x_iload_n (pc := 60) (show decode mX8_finds.2.1 60 = .ok (.iload_n 3, 1) by decide +kernel) rfl rfl ?_
      obtain ⟨hg, hR⟩ := hR
      refine x_lshl (pc := 61) (show decode mX8_finds.2.1 61 = .ok (.lshl, 1) by decide +kernel) hg ?_
      refine x_lor (pc := 62) (show decode mX8_finds.2.1 62 = .ok (.lor, 1) by decide +kernel) ?_
      obtain ⟨hg, hR⟩ := hR
      refine x_last (pc := 63) rfl (by decide) hg (show decode mX8_finds.2.1 63 = .ok (.lastore, 1) by decide +kernel) ?_
      refine x_aload_n (pc := 64) (show decode mX8_finds.2.1 64 = .ok (.aload_n 0, 1) by decide +kernel) rfl rfl ?_
      refine x_getR (pc := 65) f8_25 rfl rfl (show decode mX8_finds.2.1 65 = .ok (.getfield 25, 3) by decide +kernel) ?_
      refine x_iload_n (pc := 68) (show decode mX8_finds.2.1 68 = .ok (.iload_n 1, 1) by decide +kernel) rfl rfl ?_
      refine x_dup2 (pc := 69) (show decode mX8_finds.2.1 69 = .ok (.dup2, 1) by decide +kernel) rfl rfl ?_
      obtain ⟨hg, hR⟩ := hR
      refine x_lald (pc := 70) rfl (by decide) hg (show decode mX8_finds.2.1 70 = .ok (.laload, 1) by decide +kernel) ?_
      refine x_lconst (pc := 71) (v := 1) (show decode mX8_finds.2.1 71 = .ok (.lconst 1, 1) by decide +kernel) rfl ?_
      refine x_iload_n (pc := 72) (show decode mX8_finds.2.1 72 = .ok (.iload_n 3, 1) by decide +kernel) rfl rfl ?_
      obtain ⟨hg, hR⟩ := hR
      refine x_lshl (pc := 73) (show decode mX8_finds.2.1 73 = .ok (.lshl, 1) by decide +kernel) hg ?_
      refine x_aload_n (pc := 74) (show decode mX8_finds.2.1 74 = .ok (.aload_n 0, 1) by decide +kernel) rfl rfl ?_
      refine x_getR (pc := 75) f8_25 rfl rfl (show decode mX8_finds.2.1 75 = .ok (.getfield 25, 3) by decide +kernel) ?_
      refine x_iload_n (pc := 78) (show decode mX8_finds.2.1 78 = .ok (.iload_n 3, 1) by decide +kernel) rfl rfl ?_
      obtain ⟨hg, hR⟩ := hR
      refine x_lald (pc := 79) rfl (by decide) hg (show decode mX8_finds.2.1 79 = .ok (.laload, 1) by decide +kernel) ?_
      refine x_lor (pc := 80) (show decode mX8_finds.2.1 80 = .ok (.lor, 1) by decide +kernel) ?_
      refine x_lor (pc := 81) (show decode mX8_finds.2.1 81 = .ok (.lor, 1) by decide +kernel) ?_
      obtain ⟨hg, hR⟩ := hR
      refine x_last (pc := 82) rfl (by decide) hg (show decode mX8_finds.2.1 82 = .ok (.lastore, 1) by decide +kernel) ?_
      refine x_aload_n (pc := 83) (show decode mX8_finds.2.1 83 = .ok (.aload_n 0, 1) by decide +kernel) rfl rfl ?_
      refine x_getR (pc := 84) f8_31 rfl rfl (show decode mX8_finds.2.1 84 = .ok (.getfield 31, 3) by decide +kernel) ?_
      refine x_iload_n (pc := 87) (show decode mX8_finds.2.1 87 = .ok (.iload_n 1, 1) by decide +kernel) rfl rfl ?_
      refine x_aload_n (pc := 88) (show decode mX8_finds.2.1 88 = .ok (.aload_n 0, 1) by decide +kernel) rfl rfl ?_
      refine x_getR (pc := 89) f8_31 rfl rfl (show decode mX8_finds.2.1 89 = .ok (.getfield 31, 3) by decide +kernel) ?_
      refine x_iload_n (pc := 92) (show decode mX8_finds.2.1 92 = .ok (.iload_n 1, 1) by decide +kernel) rfl rfl ?_
      obtain ⟨hg, hR⟩ := hR
      refine x_iald (pc := 93) rfl (by decide) hg (show decode mX8_finds.2.1 93 = .ok (.iaload, 1) by decide +kernel) ?_
      refine x_aload_n (pc := 94) (show decode mX8_finds.2.1 94 = .ok (.aload_n 0, 1) by decide +kernel) rfl rfl ?_
      refine x_getR (pc := 95) f8_31 rfl rfl (show decode mX8_finds.2.1 95 = .ok (.getfield 31, 3) by decide +kernel) ?_
      refine x_iload_n (pc := 98) (show decode mX8_finds.2.1 98 = .ok (.iload_n 3, 1) by decide +kernel) rfl rfl ?_
      obtain ⟨hg, hR⟩ := hR
      refine x_iald (pc := 99) rfl (by decide) hg (show decode mX8_finds.2.1 99 = .ok (.iaload, 1) by decide +kernel) ?_
      refine x_iconst (pc := 100) (n := 1) (show decode mX8_finds.2.1 100 = .ok (.iconst 1, 1) by decide +kernel) ?_
      refine x_iadd (pc := 101) (show decode mX8_finds.2.1 101 = .ok (.iadd, 1) by decide +kernel) ?_
      obtain ⟨hg, hR⟩ := hR
      refine x_mmax (pc := 102) (tblG_m5 175 rfl rfl) MX_st M_in MX_cd ⟨hg.1, hg.2⟩ (Nat.le_of_ble_eq_true rfl) hd (show decode mX8_finds.2.1 102 = .ok (.invokestatic 119, 3) by decide +kernel) ?_
      obtain ⟨hg, hR⟩ := hR
      refine x_iast (pc := 105) rfl (by decide) hg (show decode mX8_finds.2.1 105 = .ok (.iastore, 1) by decide +kernel) ?_
      refine x_iinc (pc := 106) (ls' := [some (.inr (.inr 0)), some (.inl x1), some (.inl (x2 + 1)), some (.inl r2)]) (show decode mX8_finds.2.1 106 = .ok (.iinc 2 1, 3) by decide +kernel) (by decide) rfl rfl ?_
      refine x_goto (pc := 109) (tgt := 23) (show decode mX8_finds.2.1 109 = .ok (.goto (-86), 3) by decide +kernel) (by decide) ?_
      exact x_weak (xle_get (by repeat' constructor)) hR
    · replace hR := hR.2 hc
      refine x_goto (pc := 49) (tgt := 106) (show decode mX8_finds.2.1 49 = .ok (.goto 57, 3) by decide +kernel) (by decide) ?_
      refine x_iinc (pc := 106) (ls' := [some (.inr (.inr 0)), some (.inl x1), some (.inl (x2 + 1)), some (.inl r2)]) (show decode mX8_finds.2.1 106 = .ok (.iinc 2 1, 3) by decide +kernel) (by decide) rfl rfl ?_
      refine x_goto (pc := 109) (tgt := 23) (show decode mX8_finds.2.1 109 = .ok (.goto (-86), 3) by decide +kernel) (by decide) ?_
      exact x_weak (xle_get (by repeat' constructor)) hR
set_option maxRecDepth 4000 in
theorem sg_X8_findsAll_0 {d : Nat} {h : xH} {Q : xH → Prop}
    (hR : gV wdM d mX8_findsAll 2 [some (.inr (.inr 0)), some (.inl 0), none] h Q) :
    gV wdM d mX8_findsAll 0 [some (.inr (.inr 0)), none, none] h Q := by
  unfold gV
  refine x_iconst (pc := 0) (n := 0) (show decode mX8_findsAll.2.1 0 = .ok (.iconst 0, 1) by decide +kernel) ?_
  refine x_istore_n (pc := 1) (ls' := [some (.inr (.inr 0)), some (.inl 0), none]) (show decode mX8_findsAll.2.1 1 = .ok (.istore_n 1, 1) by decide +kernel) rfl (by decide) rfl ?_
  exact hR
set_option maxRecDepth 4000 in
theorem sg_X8_findsAll_2 {d : Nat} {x1 : Int} {h : xH} {Q : xH → Prop}
    (hR : (inI x1) ∧ (100 ≤ x1 → Q h) ∧ (x1 < 100 → gV wdM d mX8_findsAll 10 [some (.inr (.inr 0)), some (.inl x1), some (.inl 0)] h Q)) :
    gV wdM d mX8_findsAll 2 [some (.inr (.inr 0)), some (.inl x1), none] h Q := by
  unfold gV
  refine x_iload_n (pc := 2) (show decode mX8_findsAll.2.1 2 = .ok (.iload_n 1, 1) by decide +kernel) rfl rfl ?_
  refine x_bipush (pc := 3) (n := 100) (show decode mX8_findsAll.2.1 3 = .ok (.bipush 100, 2) by decide +kernel) rfl ?_
  obtain ⟨hg, hR⟩ := hR
  refine x_icmp_ge (pc := 5) (tgt := 49) (show decode mX8_findsAll.2.1 5 = .ok (.if_icmp .ge 44, 3) by decide +kernel) (by decide) ⟨hg, (by unfold inI; decide)⟩ (fun hc => ?_) (fun hc => ?_)
  · replace hR := hR.1 hc
    exact x_vret (pc := 49) rfl (show decode mX8_findsAll.2.1 49 = .ok (.return_, 1) by decide +kernel) ⟨rfl, hR⟩
  · replace hR := hR.2 hc
    refine x_iconst (pc := 8) (n := 0) (show decode mX8_findsAll.2.1 8 = .ok (.iconst 0, 1) by decide +kernel) ?_
    refine x_istore_n (pc := 9) (ls' := [some (.inr (.inr 0)), some (.inl x1), some (.inl 0)]) (show decode mX8_findsAll.2.1 9 = .ok (.istore_n 2, 1) by decide +kernel) rfl (by decide) rfl ?_
    exact hR
set_option maxRecDepth 4000 in
theorem sg_X8_findsAll_10 {d : Nat} {x1 x2 : Int} {h : xH} {Q : xH → Prop} (hd : 1 ≤ d)
    (hR : (inI x2 ∧ inI (h 1 1)) ∧ ((h 1 1) ≤ x2 → gV wdM d mX8_findsAll 2 [some (.inr (.inr 0)), some (.inl (x1 + 1)), none] h Q) ∧ (x2 < (h 1 1) → (0 ≤ (5 + x2) ∧ (5 + x2) < 1705) ∧ (inI (h 1 (5 + x2)) ∧ inI x1) ∧ (¬ (h 1 (5 + x2)) = x1 → gV wdM d mX8_findsAll 10 [some (.inr (.inr 0)), some (.inl x1), some (.inl (x2 + 1))] h Q) ∧ ((h 1 (5 + x2)) = x1 → cV wdM (d - 1) mX8_finds [.inr (.inr 0), .inl x2] h (fun h1 => gV wdM d mX8_findsAll 10 [some (.inr (.inr 0)), some (.inl x1), some (.inl (x2 + 1))] h1 Q)))) :
    gV wdM d mX8_findsAll 10 [some (.inr (.inr 0)), some (.inl x1), some (.inl x2)] h Q := by
  unfold gV
  refine x_iload_n (pc := 10) (show decode mX8_findsAll.2.1 10 = .ok (.iload_n 2, 1) by decide +kernel) rfl rfl ?_
  refine x_aload_n (pc := 11) (show decode mX8_findsAll.2.1 11 = .ok (.aload_n 0, 1) by decide +kernel) rfl rfl ?_
  refine x_getR (pc := 12) f8_11 rfl rfl (show decode mX8_findsAll.2.1 12 = .ok (.getfield 11, 3) by decide +kernel) ?_
  refine x_iconst (pc := 15) (n := 1) (show decode mX8_findsAll.2.1 15 = .ok (.iconst 1, 1) by decide +kernel) ?_
  refine x_iald (pc := 16) rfl (by decide) (by decide) (show decode mX8_findsAll.2.1 16 = .ok (.iaload, 1) by decide +kernel) ?_
  obtain ⟨hg, hR⟩ := hR
  refine x_icmp_ge (pc := 17) (tgt := 43) (show decode mX8_findsAll.2.1 17 = .ok (.if_icmp .ge 26, 3) by decide +kernel) (by decide) ⟨hg.1, hg.2⟩ (fun hc => ?_) (fun hc => ?_)
  · replace hR := hR.1 hc
    refine x_iinc (pc := 43) (ls' := [some (.inr (.inr 0)), some (.inl (x1 + 1)), some (.inl x2)]) (show decode mX8_findsAll.2.1 43 = .ok (.iinc 1 1, 3) by decide +kernel) (by decide) rfl rfl ?_
    refine x_goto (pc := 46) (tgt := 2) (show decode mX8_findsAll.2.1 46 = .ok (.goto (-44), 3) by decide +kernel) (by decide) ?_
    exact x_weak (xle_get (by repeat' constructor)) hR
  · replace hR := hR.2 hc
    refine x_aload_n (pc := 20) (show decode mX8_findsAll.2.1 20 = .ok (.aload_n 0, 1) by decide +kernel) rfl rfl ?_
    refine x_getR (pc := 21) f8_11 rfl rfl (show decode mX8_findsAll.2.1 21 = .ok (.getfield 11, 3) by decide +kernel) ?_
    refine x_iconst (pc := 24) (n := 5) (show decode mX8_findsAll.2.1 24 = .ok (.iconst 5, 1) by decide +kernel) ?_
    refine x_iload_n (pc := 25) (show decode mX8_findsAll.2.1 25 = .ok (.iload_n 2, 1) by decide +kernel) rfl rfl ?_
    refine x_iadd (pc := 26) (show decode mX8_findsAll.2.1 26 = .ok (.iadd, 1) by decide +kernel) ?_
    obtain ⟨hg, hR⟩ := hR
    refine x_iald (pc := 27) rfl (by decide) hg (show decode mX8_findsAll.2.1 27 = .ok (.iaload, 1) by decide +kernel) ?_
    refine x_iload_n (pc := 28) (show decode mX8_findsAll.2.1 28 = .ok (.iload_n 1, 1) by decide +kernel) rfl rfl ?_
    obtain ⟨hg, hR⟩ := hR
    refine x_icmp_ne (pc := 29) (tgt := 37) (show decode mX8_findsAll.2.1 29 = .ok (.if_icmp .ne 8, 3) by decide +kernel) (by decide) ⟨hg.1, hg.2⟩ (fun hc => ?_) (fun hc => ?_)
    · replace hR := hR.1 hc
      refine x_iinc (pc := 37) (ls' := [some (.inr (.inr 0)), some (.inl x1), some (.inl (x2 + 1))]) (show decode mX8_findsAll.2.1 37 = .ok (.iinc 2 1, 3) by decide +kernel) (by decide) rfl rfl ?_
      refine x_goto (pc := 40) (tgt := 10) (show decode mX8_findsAll.2.1 40 = .ok (.goto (-30), 3) by decide +kernel) (by decide) ?_
      exact hR
    · replace hR := hR.2 hc
      refine x_aload_n (pc := 32) (show decode mX8_findsAll.2.1 32 = .ok (.aload_n 0, 1) by decide +kernel) rfl rfl ?_
      refine x_iload_n (pc := 33) (show decode mX8_findsAll.2.1 33 = .ok (.iload_n 2, 1) by decide +kernel) rfl rfl ?_
      refine x_callV (pc := 34) (As := [.inl x2]) (rest := []) (lk8_124 rfl) im_X8_finds sl_X8_finds rfl rfl rfl (Nat.le_of_ble_eq_true rfl) (Nat.le_of_ble_eq_true rfl) (show decode mX8_findsAll.2.1 34 = .ok (.invokevirtual 124, 3) by decide +kernel) hd hR (fun r9 h1 hq => ?_)
      obtain ⟨rfl, hR⟩ := hq
      show xG _ _ _ 37 _ [] _ _
      refine x_iinc (pc := 37) (ls' := [some (.inr (.inr 0)), some (.inl x1), some (.inl (x2 + 1))]) (show decode mX8_findsAll.2.1 37 = .ok (.iinc 2 1, 3) by decide +kernel) (by decide) rfl rfl ?_
      refine x_goto (pc := 40) (tgt := 10) (show decode mX8_findsAll.2.1 40 = .ok (.goto (-30), 3) by decide +kernel) (by decide) ?_
      exact hR
set_option maxRecDepth 4000 in
theorem sg_X8_lacks_0 {d : Nat} {x1 : Int} {h : xH} {Q : Int → xH → Prop} (hd : 1 ≤ d)
    (hR : (0 ≤ (35 + x1) ∧ (35 + x1) < 1705) ∧ (0 ≤ (5 + x1) ∧ (5 + x1) < 1705) ∧ cB wdM (d - 1) mX8_isFilled [.inr (.inr 0), .inl (h 1 (35 + x1)), .inl (h 1 (5 + x1))] h (fun h1 => (0 ≤ (35 + x1) ∧ (35 + x1) < 1705) ∧ (0 ≤ (5 + x1) ∧ (5 + x1) < 1705) ∧ cB wdM (d - 1) mX8_isFilled [.inr (.inr 0), .inl ((h1 1 (35 + x1)) + 1), .inl (h1 1 (5 + x1))] h1 (fun h2 => Q 0 h2) (fun h2 => Q 1 h2)) (fun h1 => Q 1 h1)) :
    gI wdM d mX8_lacks 0 [some (.inr (.inr 0)), some (.inl x1)] h Q := by
  unfold gI
  refine x_aload_n (pc := 0) (show decode mX8_lacks.2.1 0 = .ok (.aload_n 0, 1) by decide +kernel) rfl rfl ?_
  refine x_aload_n (pc := 1) (show decode mX8_lacks.2.1 1 = .ok (.aload_n 0, 1) by decide +kernel) rfl rfl ?_
  refine x_getR (pc := 2) f8_11 rfl rfl (show decode mX8_lacks.2.1 2 = .ok (.getfield 11, 3) by decide +kernel) ?_
  refine x_bipush (pc := 5) (n := 35) (show decode mX8_lacks.2.1 5 = .ok (.bipush 35, 2) by decide +kernel) rfl ?_
  refine x_iload_n (pc := 7) (show decode mX8_lacks.2.1 7 = .ok (.iload_n 1, 1) by decide +kernel) rfl rfl ?_
  refine x_iadd (pc := 8) (show decode mX8_lacks.2.1 8 = .ok (.iadd, 1) by decide +kernel) ?_
  obtain ⟨hg, hR⟩ := hR
  refine x_iald (pc := 9) rfl (by decide) hg (show decode mX8_lacks.2.1 9 = .ok (.iaload, 1) by decide +kernel) ?_
  refine x_aload_n (pc := 10) (show decode mX8_lacks.2.1 10 = .ok (.aload_n 0, 1) by decide +kernel) rfl rfl ?_
  refine x_getR (pc := 11) f8_11 rfl rfl (show decode mX8_lacks.2.1 11 = .ok (.getfield 11, 3) by decide +kernel) ?_
  refine x_iconst (pc := 14) (n := 5) (show decode mX8_lacks.2.1 14 = .ok (.iconst 5, 1) by decide +kernel) ?_
  refine x_iload_n (pc := 15) (show decode mX8_lacks.2.1 15 = .ok (.iload_n 1, 1) by decide +kernel) rfl rfl ?_
  refine x_iadd (pc := 16) (show decode mX8_lacks.2.1 16 = .ok (.iadd, 1) by decide +kernel) ?_
  obtain ⟨hg, hR⟩ := hR
  refine x_iald (pc := 17) rfl (by decide) hg (show decode mX8_lacks.2.1 17 = .ok (.iaload, 1) by decide +kernel) ?_
  refine x_callV (pc := 18) (As := [.inl (h 1 (35 + x1)), .inl (h 1 (5 + x1))]) (rest := []) (lk8_106 rfl) im_X8_isFilled sl_X8_isFilled rfl rfl rfl (Nat.le_of_ble_eq_true rfl) (Nat.le_of_ble_eq_true rfl) (show decode mX8_lacks.2.1 18 = .ok (.invokevirtual 106, 3) by decide +kernel) hd hR (fun r9 h1 hq => ?_)
  obtain ⟨r8, rfl, hq⟩ := hq
  rcases hq with ⟨rfl, hR⟩ | ⟨rfl, hR⟩
  · show xG _ _ _ 21 _ [.inl 1] _ _
    refine x_if_eq (pc := 21) (tgt := 50) (show decode mX8_lacks.2.1 21 = .ok (.ifCond .eq 29, 3) by decide +kernel) (by decide) (by unfold inI; decide) (fun hc => absurd hc (by decide)) (fun _ => ?_)
    refine x_aload_n (pc := 24) (show decode mX8_lacks.2.1 24 = .ok (.aload_n 0, 1) by decide +kernel) rfl rfl ?_
    refine x_aload_n (pc := 25) (show decode mX8_lacks.2.1 25 = .ok (.aload_n 0, 1) by decide +kernel) rfl rfl ?_
    refine x_getR (pc := 26) f8_11 rfl rfl (show decode mX8_lacks.2.1 26 = .ok (.getfield 11, 3) by decide +kernel) ?_
    refine x_bipush (pc := 29) (n := 35) (show decode mX8_lacks.2.1 29 = .ok (.bipush 35, 2) by decide +kernel) rfl ?_
    refine x_iload_n (pc := 31) (show decode mX8_lacks.2.1 31 = .ok (.iload_n 1, 1) by decide +kernel) rfl rfl ?_
    refine x_iadd (pc := 32) (show decode mX8_lacks.2.1 32 = .ok (.iadd, 1) by decide +kernel) ?_
    obtain ⟨hg, hR⟩ := hR
    refine x_iald (pc := 33) rfl (by decide) hg (show decode mX8_lacks.2.1 33 = .ok (.iaload, 1) by decide +kernel) ?_
    refine x_iconst (pc := 34) (n := 1) (show decode mX8_lacks.2.1 34 = .ok (.iconst 1, 1) by decide +kernel) ?_
    refine x_iadd (pc := 35) (show decode mX8_lacks.2.1 35 = .ok (.iadd, 1) by decide +kernel) ?_
    refine x_aload_n (pc := 36) (show decode mX8_lacks.2.1 36 = .ok (.aload_n 0, 1) by decide +kernel) rfl rfl ?_
    refine x_getR (pc := 37) f8_11 rfl rfl (show decode mX8_lacks.2.1 37 = .ok (.getfield 11, 3) by decide +kernel) ?_
    refine x_iconst (pc := 40) (n := 5) (show decode mX8_lacks.2.1 40 = .ok (.iconst 5, 1) by decide +kernel) ?_
    refine x_iload_n (pc := 41) (show decode mX8_lacks.2.1 41 = .ok (.iload_n 1, 1) by decide +kernel) rfl rfl ?_
    refine x_iadd (pc := 42) (show decode mX8_lacks.2.1 42 = .ok (.iadd, 1) by decide +kernel) ?_
    obtain ⟨hg, hR⟩ := hR
    refine x_iald (pc := 43) rfl (by decide) hg (show decode mX8_lacks.2.1 43 = .ok (.iaload, 1) by decide +kernel) ?_
    refine x_callV (pc := 44) (As := [.inl ((h1 1 (35 + x1)) + 1), .inl (h1 1 (5 + x1))]) (rest := []) (lk8_106 rfl) im_X8_isFilled sl_X8_isFilled rfl rfl rfl (Nat.le_of_ble_eq_true rfl) (Nat.le_of_ble_eq_true rfl) (show decode mX8_lacks.2.1 44 = .ok (.invokevirtual 106, 3) by decide +kernel) hd hR (fun r9 h2 hq => ?_)
    obtain ⟨r8, rfl, hq⟩ := hq
    rcases hq with ⟨rfl, hR⟩ | ⟨rfl, hR⟩
    · show xG _ _ _ 47 _ [.inl 1] _ _
      refine x_if_ne (pc := 47) (tgt := 54) (show decode mX8_lacks.2.1 47 = .ok (.ifCond .ne 7, 3) by decide +kernel) (by decide) (by unfold inI; decide) (fun _ => ?_) (fun hc => absurd hc (by decide))
      refine x_iconst (pc := 54) (n := 0) (show decode mX8_lacks.2.1 54 = .ok (.iconst 0, 1) by decide +kernel) ?_
      exact x_zret (pc := 55) rfl (show decode mX8_lacks.2.1 55 = .ok (.ireturn, 1) by decide +kernel) (by decide) ⟨_, rfl, hR⟩
    · show xG _ _ _ 47 _ [.inl 0] _ _
      refine x_if_ne (pc := 47) (tgt := 54) (show decode mX8_lacks.2.1 47 = .ok (.ifCond .ne 7, 3) by decide +kernel) (by decide) (by unfold inI; decide) (fun hc => absurd hc (by decide)) (fun _ => ?_)
      refine x_iconst (pc := 50) (n := 1) (show decode mX8_lacks.2.1 50 = .ok (.iconst 1, 1) by decide +kernel) ?_
      refine x_goto (pc := 51) (tgt := 55) (show decode mX8_lacks.2.1 51 = .ok (.goto 4, 3) by decide +kernel) (by decide) ?_
      exact x_zret (pc := 55) rfl (show decode mX8_lacks.2.1 55 = .ok (.ireturn, 1) by decide +kernel) (by decide) ⟨_, rfl, hR⟩
  · show xG _ _ _ 21 _ [.inl 0] _ _
    refine x_if_eq (pc := 21) (tgt := 50) (show decode mX8_lacks.2.1 21 = .ok (.ifCond .eq 29, 3) by decide +kernel) (by decide) (by unfold inI; decide) (fun _ => ?_) (fun hc => absurd hc (by decide))
    refine x_iconst (pc := 50) (n := 1) (show decode mX8_lacks.2.1 50 = .ok (.iconst 1, 1) by decide +kernel) ?_
    refine x_goto (pc := 51) (tgt := 55) (show decode mX8_lacks.2.1 51 = .ok (.goto 4, 3) by decide +kernel) (by decide) ?_
    exact x_zret (pc := 55) rfl (show decode mX8_lacks.2.1 55 = .ok (.ireturn, 1) by decide +kernel) (by decide) ⟨_, rfl, hR⟩
set_option maxRecDepth 4000 in
theorem sg_X8_done_0 {d : Nat} {h : xH} {Q : Int → xH → Prop}
    (hR : gL wdM d mX8_done 4 [some (.inr (.inr 0)), some (.inr (.inl 0)), none, some (.inl 0)] h Q) :
    gL wdM d mX8_done 0 [some (.inr (.inr 0)), none, none, none] h Q := by
  unfold gL
  refine x_lconst (pc := 0) (v := 0) (show decode mX8_done.2.1 0 = .ok (.lconst 0, 1) by decide +kernel) rfl ?_
  refine x_lstore_n (pc := 1) (ls' := [some (.inr (.inr 0)), some (.inr (.inl 0)), none, none]) (show decode mX8_done.2.1 1 = .ok (.lstore_n 1, 1) by decide +kernel) rfl (by decide) rfl ?_
  refine x_iconst (pc := 2) (n := 0) (show decode mX8_done.2.1 2 = .ok (.iconst 0, 1) by decide +kernel) ?_
  refine x_istore_n (pc := 3) (ls' := [some (.inr (.inr 0)), some (.inr (.inl 0)), none, some (.inl 0)]) (show decode mX8_done.2.1 3 = .ok (.istore_n 3, 1) by decide +kernel) rfl (by decide) rfl ?_
  exact hR
set_option maxRecDepth 4000 in
theorem sg_X8_done_4 {d : Nat} {x1 x3 : Int} {h : xH} {Q : Int → xH → Prop}
    (hR : (inI x3 ∧ inI (h 1 1)) ∧ ((h 1 1) ≤ x3 → Q x1 h) ∧ (x3 < (h 1 1) → (0 ≤ (95 + x3) ∧ (95 + x3) < 1705) ∧ (inI (h 1 (95 + x3))) ∧ (¬ (h 1 (95 + x3)) = 1 → gL wdM d mX8_done 4 [some (.inr (.inr 0)), some (.inr (.inl (xorL x1 0))), none, some (.inl (x3 + 1))] h Q) ∧ ((h 1 (95 + x3)) = 1 → (0 ≤ x3 ∧ x3 ≤ 63) ∧ gL wdM d mX8_done 4 [some (.inr (.inr 0)), some (.inr (.inl (xorL x1 (1 * 2 ^ (Int.toNat x3))))), none, some (.inl (x3 + 1))] h Q))) :
    gL wdM d mX8_done 4 [some (.inr (.inr 0)), some (.inr (.inl x1)), none, some (.inl x3)] h Q := by
  unfold gL
  refine x_iload_n (pc := 4) (show decode mX8_done.2.1 4 = .ok (.iload_n 3, 1) by decide +kernel) rfl rfl ?_
  refine x_aload_n (pc := 5) (show decode mX8_done.2.1 5 = .ok (.aload_n 0, 1) by decide +kernel) rfl rfl ?_
  refine x_getR (pc := 6) f8_11 rfl rfl (show decode mX8_done.2.1 6 = .ok (.getfield 11, 3) by decide +kernel) ?_
  refine x_iconst (pc := 9) (n := 1) (show decode mX8_done.2.1 9 = .ok (.iconst 1, 1) by decide +kernel) ?_
  refine x_iald (pc := 10) rfl (by decide) (by decide) (show decode mX8_done.2.1 10 = .ok (.iaload, 1) by decide +kernel) ?_
  obtain ⟨hg, hR⟩ := hR
  refine x_icmp_ge (pc := 11) (tgt := 43) (show decode mX8_done.2.1 11 = .ok (.if_icmp .ge 32, 3) by decide +kernel) (by decide) ⟨hg.1, hg.2⟩ (fun hc => ?_) (fun hc => ?_)
  · replace hR := hR.1 hc
    refine x_lload_n (pc := 43) (show decode mX8_done.2.1 43 = .ok (.lload_n 1, 1) by decide +kernel) rfl rfl ?_
    exact x_lret (pc := 44) rfl (show decode mX8_done.2.1 44 = .ok (.lreturn, 1) by decide +kernel) ⟨_, rfl, hR⟩
  · replace hR := hR.2 hc
    refine x_lload_n (pc := 14) (show decode mX8_done.2.1 14 = .ok (.lload_n 1, 1) by decide +kernel) rfl rfl ?_
    refine x_aload_n (pc := 15) (show decode mX8_done.2.1 15 = .ok (.aload_n 0, 1) by decide +kernel) rfl rfl ?_
    refine x_getR (pc := 16) f8_11 rfl rfl (show decode mX8_done.2.1 16 = .ok (.getfield 11, 3) by decide +kernel) ?_
    refine x_bipush (pc := 19) (n := 95) (show decode mX8_done.2.1 19 = .ok (.bipush 95, 2) by decide +kernel) rfl ?_
    refine x_iload_n (pc := 21) (show decode mX8_done.2.1 21 = .ok (.iload_n 3, 1) by decide +kernel) rfl rfl ?_
    refine x_iadd (pc := 22) (show decode mX8_done.2.1 22 = .ok (.iadd, 1) by decide +kernel) ?_
    obtain ⟨hg, hR⟩ := hR
    refine x_iald (pc := 23) rfl (by decide) hg (show decode mX8_done.2.1 23 = .ok (.iaload, 1) by decide +kernel) ?_
    refine x_iconst (pc := 24) (n := 1) (show decode mX8_done.2.1 24 = .ok (.iconst 1, 1) by decide +kernel) ?_
    obtain ⟨hg, hR⟩ := hR
    refine x_icmp_ne (pc := 25) (tgt := 34) (show decode mX8_done.2.1 25 = .ok (.if_icmp .ne 9, 3) by decide +kernel) (by decide) ⟨hg, (by unfold inI; decide)⟩ (fun hc => ?_) (fun hc => ?_)
    · replace hR := hR.1 hc
      refine x_lconst (pc := 34) (v := 0) (show decode mX8_done.2.1 34 = .ok (.lconst 0, 1) by decide +kernel) rfl ?_
      refine x_lor (pc := 35) (show decode mX8_done.2.1 35 = .ok (.lor, 1) by decide +kernel) ?_
      refine x_lstore_n (pc := 36) (ls' := [some (.inr (.inr 0)), some (.inr (.inl (xorL x1 0))), none, some (.inl x3)]) (show decode mX8_done.2.1 36 = .ok (.lstore_n 1, 1) by decide +kernel) rfl (by decide) rfl ?_
      refine x_iinc (pc := 37) (ls' := [some (.inr (.inr 0)), some (.inr (.inl (xorL x1 0))), none, some (.inl (x3 + 1))]) (show decode mX8_done.2.1 37 = .ok (.iinc 3 1, 3) by decide +kernel) (by decide) rfl rfl ?_
      refine x_goto (pc := 40) (tgt := 4) (show decode mX8_done.2.1 40 = .ok (.goto (-36), 3) by decide +kernel) (by decide) ?_
      exact hR
    · replace hR := hR.2 hc
      refine x_lconst (pc := 28) (v := 1) (show decode mX8_done.2.1 28 = .ok (.lconst 1, 1) by decide +kernel) rfl ?_
      refine x_iload_n (pc := 29) (show decode mX8_done.2.1 29 = .ok (.iload_n 3, 1) by decide +kernel) rfl rfl ?_
      obtain ⟨hg, hR⟩ := hR
      refine x_lshl (pc := 30) (show decode mX8_done.2.1 30 = .ok (.lshl, 1) by decide +kernel) hg ?_
      refine x_goto (pc := 31) (tgt := 35) (show decode mX8_done.2.1 31 = .ok (.goto 4, 3) by decide +kernel) (by decide) ?_
      refine x_lor (pc := 35) (show decode mX8_done.2.1 35 = .ok (.lor, 1) by decide +kernel) ?_
      refine x_lstore_n (pc := 36) (ls' := [some (.inr (.inr 0)), some (.inr (.inl (xorL x1 (1 * 2 ^ (Int.toNat x3))))), none, some (.inl x3)]) (show decode mX8_done.2.1 36 = .ok (.lstore_n 1, 1) by decide +kernel) rfl (by decide) rfl ?_
      refine x_iinc (pc := 37) (ls' := [some (.inr (.inr 0)), some (.inr (.inl (xorL x1 (1 * 2 ^ (Int.toNat x3))))), none, some (.inl (x3 + 1))]) (show decode mX8_done.2.1 37 = .ok (.iinc 3 1, 3) by decide +kernel) (by decide) rfl rfl ?_
      refine x_goto (pc := 40) (tgt := 4) (show decode mX8_done.2.1 40 = .ok (.goto (-36), 3) by decide +kernel) (by decide) ?_
      exact hR
set_option maxRecDepth 4000 in
theorem sg_X8_isReady_0 {d : Nat} {x1 : Int} {h : xH} {Q : Int → xH → Prop} (hd : 1 ≤ d)
    (hR : (0 ≤ (95 + x1) ∧ (95 + x1) < 1705) ∧ (inI (h 1 (95 + x1))) ∧ (¬ (h 1 (95 + x1)) = 0 → Q 0 h) ∧ ((h 1 (95 + x1)) = 0 → cB wdM (d - 1) mX8_lacks [.inr (.inr 0), .inl x1] h (fun h1 => Q 0 h1) (fun h1 => (0 ≤ x1 ∧ x1 < 30) ∧ cL wdM (d - 1) mX8_done [.inr (.inr 0)] h1 (fun r3 h2 => (inL (xandL (h1 5 x1) (xxorL r3 (-1)))) ∧ (¬ (xandL (h1 5 x1) (xxorL r3 (-1))) = 0 → Q 0 h2) ∧ ((xandL (h1 5 x1) (xxorL r3 (-1))) = 0 → Q 1 h2))))) :
    gI wdM d mX8_isReady 0 [some (.inr (.inr 0)), some (.inl x1)] h Q := by
  unfold gI
  refine x_aload_n (pc := 0) (show decode mX8_isReady.2.1 0 = .ok (.aload_n 0, 1) by decide +kernel) rfl rfl ?_
  refine x_getR (pc := 1) f8_11 rfl rfl (show decode mX8_isReady.2.1 1 = .ok (.getfield 11, 3) by decide +kernel) ?_
  refine x_bipush (pc := 4) (n := 95) (show decode mX8_isReady.2.1 4 = .ok (.bipush 95, 2) by decide +kernel) rfl ?_
  refine x_iload_n (pc := 6) (show decode mX8_isReady.2.1 6 = .ok (.iload_n 1, 1) by decide +kernel) rfl rfl ?_
  refine x_iadd (pc := 7) (show decode mX8_isReady.2.1 7 = .ok (.iadd, 1) by decide +kernel) ?_
  obtain ⟨hg, hR⟩ := hR
  refine x_iald (pc := 8) rfl (by decide) hg (show decode mX8_isReady.2.1 8 = .ok (.iaload, 1) by decide +kernel) ?_
  obtain ⟨hg, hR⟩ := hR
  refine x_if_ne (pc := 9) (tgt := 44) (show decode mX8_isReady.2.1 9 = .ok (.ifCond .ne 35, 3) by decide +kernel) (by decide) hg (fun hc => ?_) (fun hc => ?_)
  · replace hR := hR.1 hc
    refine x_iconst (pc := 44) (n := 0) (show decode mX8_isReady.2.1 44 = .ok (.iconst 0, 1) by decide +kernel) ?_
    exact x_zret (pc := 45) rfl (show decode mX8_isReady.2.1 45 = .ok (.ireturn, 1) by decide +kernel) (by decide) ⟨_, rfl, hR⟩
  · replace hR := hR.2 hc
    refine x_aload_n (pc := 12) (show decode mX8_isReady.2.1 12 = .ok (.aload_n 0, 1) by decide +kernel) rfl rfl ?_
    refine x_iload_n (pc := 13) (show decode mX8_isReady.2.1 13 = .ok (.iload_n 1, 1) by decide +kernel) rfl rfl ?_
    refine x_callV (pc := 14) (As := [.inl x1]) (rest := []) (lk8_127 rfl) im_X8_lacks sl_X8_lacks rfl rfl rfl (Nat.le_of_ble_eq_true rfl) (Nat.le_of_ble_eq_true rfl) (show decode mX8_isReady.2.1 14 = .ok (.invokevirtual 127, 3) by decide +kernel) hd hR (fun r9 h1 hq => ?_)
    obtain ⟨r8, rfl, hq⟩ := hq
    rcases hq with ⟨rfl, hR⟩ | ⟨rfl, hR⟩
    · show xG _ _ _ 17 _ [.inl 1] _ _
      refine x_if_ne (pc := 17) (tgt := 44) (show decode mX8_isReady.2.1 17 = .ok (.ifCond .ne 27, 3) by decide +kernel) (by decide) (by unfold inI; decide) (fun _ => ?_) (fun hc => absurd hc (by decide))
      refine x_iconst (pc := 44) (n := 0) (show decode mX8_isReady.2.1 44 = .ok (.iconst 0, 1) by decide +kernel) ?_
      exact x_zret (pc := 45) rfl (show decode mX8_isReady.2.1 45 = .ok (.ireturn, 1) by decide +kernel) (by decide) ⟨_, rfl, hR⟩
    · show xG _ _ _ 17 _ [.inl 0] _ _
      refine x_if_ne (pc := 17) (tgt := 44) (show decode mX8_isReady.2.1 17 = .ok (.ifCond .ne 27, 3) by decide +kernel) (by decide) (by unfold inI; decide) (fun hc => absurd hc (by decide)) (fun _ => ?_)
      refine x_aload_n (pc := 20) (show decode mX8_isReady.2.1 20 = .ok (.aload_n 0, 1) by decide +kernel) rfl rfl ?_
      refine x_getR (pc := 21) f8_25 rfl rfl (show decode mX8_isReady.2.1 21 = .ok (.getfield 25, 3) by decide +kernel) ?_
      refine x_iload_n (pc := 24) (show decode mX8_isReady.2.1 24 = .ok (.iload_n 1, 1) by decide +kernel) rfl rfl ?_
      obtain ⟨hg, hR⟩ := hR
      refine x_lald (pc := 25) rfl (by decide) hg (show decode mX8_isReady.2.1 25 = .ok (.laload, 1) by decide +kernel) ?_
      refine x_aload_n (pc := 26) (show decode mX8_isReady.2.1 26 = .ok (.aload_n 0, 1) by decide +kernel) rfl rfl ?_
      refine x_callV (pc := 27) (As := []) (rest := [.inr (.inl (h1 5 x1))]) (lk8_130 rfl) im_X8_done sl_X8_done rfl rfl rfl (Nat.le_of_ble_eq_true rfl) (Nat.le_of_ble_eq_true rfl) (show decode mX8_isReady.2.1 27 = .ok (.invokevirtual 130, 3) by decide +kernel) hd hR (fun r9 h2 hq => ?_)
      obtain ⟨r3, rfl, hR⟩ := hq
      show xG _ _ _ 30 _ [.inr (.inl r3), .inr (.inl (h1 5 x1))] _ _
      refine x_ldc2 (pc := 30) (n := (-1)) (tblG_m5 197 rfl rfl) rfl (show decode mX8_isReady.2.1 30 = .ok (.ldc2_w 134, 3) by decide +kernel) ?_
      refine x_lxor (pc := 33) (show decode mX8_isReady.2.1 33 = .ok (.lxor, 1) by decide +kernel) ?_
      refine x_land (pc := 34) (show decode mX8_isReady.2.1 34 = .ok (.land, 1) by decide +kernel) ?_
      refine x_lconst (pc := 35) (v := 0) (show decode mX8_isReady.2.1 35 = .ok (.lconst 0, 1) by decide +kernel) rfl ?_
      obtain ⟨hg, hR⟩ := hR
      refine x_lcmp (pc := 36) (show decode mX8_isReady.2.1 36 = .ok (.lcmp, 1) by decide +kernel) ⟨hg, (by unfold inL; decide)⟩ ?_
      refine x_if_ne (pc := 37) (tgt := 44) (show decode mX8_isReady.2.1 37 = .ok (.ifCond .ne 7, 3) by decide +kernel) (by decide) (xcmp_in _ _) (fun hc => ?_) (fun hc => ?_)
      · replace hR := hR.1 (fun z => hc (xcmp_eq.mpr z))
        refine x_iconst (pc := 44) (n := 0) (show decode mX8_isReady.2.1 44 = .ok (.iconst 0, 1) by decide +kernel) ?_
        exact x_zret (pc := 45) rfl (show decode mX8_isReady.2.1 45 = .ok (.ireturn, 1) by decide +kernel) (by decide) ⟨_, rfl, hR⟩
      · replace hR := hR.2 (xcmp_eq.mp hc)
        refine x_iconst (pc := 40) (n := 1) (show decode mX8_isReady.2.1 40 = .ok (.iconst 1, 1) by decide +kernel) ?_
        refine x_goto (pc := 41) (tgt := 45) (show decode mX8_isReady.2.1 41 = .ok (.goto 4, 3) by decide +kernel) (by decide) ?_
        exact x_zret (pc := 45) rfl (show decode mX8_isReady.2.1 45 = .ok (.ireturn, 1) by decide +kernel) (by decide) ⟨_, rfl, hR⟩
set_option maxRecDepth 4000 in
theorem sg_X8_of_0 {d : Nat} {x1 x2 : Int} {h : xH} {Q : Int → xH → Prop} (hd : 1 ≤ d)
    (hR : cB wdM (d - 1) mX8_isPin [.inr (.inr 0), .inl x1] h (fun h1 => cV wdM (d - 1) mX8_findsAll [.inr (.inr 0)] h1 (fun h2 => inI x2 ∧ (x2 = 0 → (0 ≤ (5 + x1) ∧ (5 + x1) < 1705) ∧ Q (h2 1 (5 + x1)) h2) ∧ (x2 = 1 → (0 ≤ (35 + x1) ∧ (35 + x1) < 1705) ∧ Q (h2 1 (35 + x1)) h2) ∧ (x2 = 2 → (0 ≤ (65 + x1) ∧ (65 + x1) < 1705) ∧ Q (h2 1 (65 + x1)) h2) ∧ (x2 = 3 → (0 ≤ (95 + x1) ∧ (95 + x1) < 1705) ∧ Q (h2 1 (95 + x1)) h2) ∧ (x2 = 4 → (0 ≤ x1 ∧ x1 < 30) ∧ Q (h2 7 x1) h2) ∧ (x2 = 5 → cB wdM (d - 1) mX8_lacks [.inr (.inr 0), .inl x1] h2 (fun h3 => Q 1 h3) (fun h3 => Q 0 h3)) ∧ ((x2 < 0 ∨ 5 < x2) → Q (-1) h2))) (fun h1 => Q (-1) h1)) :
    gI wdM d mX8_of 0 [some (.inr (.inr 0)), some (.inl x1), some (.inl x2)] h Q := by
  unfold gI
  refine x_aload_n (pc := 0) (show decode mX8_of.2.1 0 = .ok (.aload_n 0, 1) by decide +kernel) rfl rfl ?_
  refine x_iload_n (pc := 1) (show decode mX8_of.2.1 1 = .ok (.iload_n 1, 1) by decide +kernel) rfl rfl ?_
  refine x_callV (pc := 2) (As := [.inl x1]) (rest := []) (lk8_95 rfl) im_X8_isPin sl_X8_isPin rfl rfl rfl (Nat.le_of_ble_eq_true rfl) (Nat.le_of_ble_eq_true rfl) (show decode mX8_of.2.1 2 = .ok (.invokevirtual 95, 3) by decide +kernel) hd hR (fun r9 h1 hq => ?_)
  obtain ⟨r8, rfl, hq⟩ := hq
  rcases hq with ⟨rfl, hR⟩ | ⟨rfl, hR⟩
  · show xG _ _ _ 5 _ [.inl 1] _ _
    refine x_if_ne (pc := 5) (tgt := 10) (show decode mX8_of.2.1 5 = .ok (.ifCond .ne 5, 3) by decide +kernel) (by decide) (by unfold inI; decide) (fun _ => ?_) (fun hc => absurd hc (by decide))
    refine x_aload_n (pc := 10) (show decode mX8_of.2.1 10 = .ok (.aload_n 0, 1) by decide +kernel) rfl rfl ?_
    refine x_callV (pc := 11) (As := []) (rest := []) (lk8_136 rfl) im_X8_findsAll sl_X8_findsAll rfl rfl rfl (Nat.le_of_ble_eq_true rfl) (Nat.le_of_ble_eq_true rfl) (show decode mX8_of.2.1 11 = .ok (.invokevirtual 136, 3) by decide +kernel) hd hR (fun r9 h2 hq => ?_)
    obtain ⟨rfl, hR⟩ := hq
    show xG _ _ _ 14 _ [] _ _
    refine x_iload_n (pc := 14) (show decode mX8_of.2.1 14 = .ok (.iload_n 2, 1) by decide +kernel) rfl rfl ?_
    obtain ⟨hg, hR⟩ := hR
    rcases (show x2 = 0 ∨ x2 = 1 ∨ x2 = 2 ∨ x2 = 3 ∨ x2 = 4 ∨ x2 = 5 ∨ (x2 < 0 ∨ 5 < x2) by omega) with hc | hc | hc | hc | hc | hc | hc
    · replace hR := hR.1 hc
      refine x_tswAt (pc := 15) (n := 0) (tgt := 52) (show decode mX8_of.2.1 15 = .ok (.tableswitch 97 0 5 #[37, 46, 56, 66, 76, 83], 37) by decide +kernel) hg hc (by decide) rfl (by decide) ?_
      refine x_aload_n (pc := 52) (show decode mX8_of.2.1 52 = .ok (.aload_n 0, 1) by decide +kernel) rfl rfl ?_
      refine x_getR (pc := 53) f8_11 rfl rfl (show decode mX8_of.2.1 53 = .ok (.getfield 11, 3) by decide +kernel) ?_
      refine x_iconst (pc := 56) (n := 5) (show decode mX8_of.2.1 56 = .ok (.iconst 5, 1) by decide +kernel) ?_
      refine x_iload_n (pc := 57) (show decode mX8_of.2.1 57 = .ok (.iload_n 1, 1) by decide +kernel) rfl rfl ?_
      refine x_iadd (pc := 58) (show decode mX8_of.2.1 58 = .ok (.iadd, 1) by decide +kernel) ?_
      obtain ⟨hg, hR⟩ := hR
      refine x_iald (pc := 59) rfl (by decide) hg (show decode mX8_of.2.1 59 = .ok (.iaload, 1) by decide +kernel) ?_
      exact x_iret (pc := 60) rfl (show decode mX8_of.2.1 60 = .ok (.ireturn, 1) by decide +kernel) ⟨_, rfl, hR⟩
    · replace hR := hR.2.1 hc
      refine x_tswAt (pc := 15) (n := 1) (tgt := 61) (show decode mX8_of.2.1 15 = .ok (.tableswitch 97 0 5 #[37, 46, 56, 66, 76, 83], 37) by decide +kernel) hg hc (by decide) rfl (by decide) ?_
      refine x_aload_n (pc := 61) (show decode mX8_of.2.1 61 = .ok (.aload_n 0, 1) by decide +kernel) rfl rfl ?_
      refine x_getR (pc := 62) f8_11 rfl rfl (show decode mX8_of.2.1 62 = .ok (.getfield 11, 3) by decide +kernel) ?_
      refine x_bipush (pc := 65) (n := 35) (show decode mX8_of.2.1 65 = .ok (.bipush 35, 2) by decide +kernel) rfl ?_
      refine x_iload_n (pc := 67) (show decode mX8_of.2.1 67 = .ok (.iload_n 1, 1) by decide +kernel) rfl rfl ?_
      refine x_iadd (pc := 68) (show decode mX8_of.2.1 68 = .ok (.iadd, 1) by decide +kernel) ?_
      obtain ⟨hg, hR⟩ := hR
      refine x_iald (pc := 69) rfl (by decide) hg (show decode mX8_of.2.1 69 = .ok (.iaload, 1) by decide +kernel) ?_
      exact x_iret (pc := 70) rfl (show decode mX8_of.2.1 70 = .ok (.ireturn, 1) by decide +kernel) ⟨_, rfl, hR⟩
    · replace hR := hR.2.2.1 hc
      refine x_tswAt (pc := 15) (n := 2) (tgt := 71) (show decode mX8_of.2.1 15 = .ok (.tableswitch 97 0 5 #[37, 46, 56, 66, 76, 83], 37) by decide +kernel) hg hc (by decide) rfl (by decide) ?_
      refine x_aload_n (pc := 71) (show decode mX8_of.2.1 71 = .ok (.aload_n 0, 1) by decide +kernel) rfl rfl ?_
      refine x_getR (pc := 72) f8_11 rfl rfl (show decode mX8_of.2.1 72 = .ok (.getfield 11, 3) by decide +kernel) ?_
      refine x_bipush (pc := 75) (n := 65) (show decode mX8_of.2.1 75 = .ok (.bipush 65, 2) by decide +kernel) rfl ?_
      refine x_iload_n (pc := 77) (show decode mX8_of.2.1 77 = .ok (.iload_n 1, 1) by decide +kernel) rfl rfl ?_
      refine x_iadd (pc := 78) (show decode mX8_of.2.1 78 = .ok (.iadd, 1) by decide +kernel) ?_
      obtain ⟨hg, hR⟩ := hR
      refine x_iald (pc := 79) rfl (by decide) hg (show decode mX8_of.2.1 79 = .ok (.iaload, 1) by decide +kernel) ?_
      exact x_iret (pc := 80) rfl (show decode mX8_of.2.1 80 = .ok (.ireturn, 1) by decide +kernel) ⟨_, rfl, hR⟩
    · replace hR := hR.2.2.2.1 hc
      refine x_tswAt (pc := 15) (n := 3) (tgt := 81) (show decode mX8_of.2.1 15 = .ok (.tableswitch 97 0 5 #[37, 46, 56, 66, 76, 83], 37) by decide +kernel) hg hc (by decide) rfl (by decide) ?_
      refine x_aload_n (pc := 81) (show decode mX8_of.2.1 81 = .ok (.aload_n 0, 1) by decide +kernel) rfl rfl ?_
      refine x_getR (pc := 82) f8_11 rfl rfl (show decode mX8_of.2.1 82 = .ok (.getfield 11, 3) by decide +kernel) ?_
      refine x_bipush (pc := 85) (n := 95) (show decode mX8_of.2.1 85 = .ok (.bipush 95, 2) by decide +kernel) rfl ?_
      refine x_iload_n (pc := 87) (show decode mX8_of.2.1 87 = .ok (.iload_n 1, 1) by decide +kernel) rfl rfl ?_
      refine x_iadd (pc := 88) (show decode mX8_of.2.1 88 = .ok (.iadd, 1) by decide +kernel) ?_
      obtain ⟨hg, hR⟩ := hR
      refine x_iald (pc := 89) rfl (by decide) hg (show decode mX8_of.2.1 89 = .ok (.iaload, 1) by decide +kernel) ?_
      exact x_iret (pc := 90) rfl (show decode mX8_of.2.1 90 = .ok (.ireturn, 1) by decide +kernel) ⟨_, rfl, hR⟩
    · replace hR := hR.2.2.2.2.1 hc
      refine x_tswAt (pc := 15) (n := 4) (tgt := 91) (show decode mX8_of.2.1 15 = .ok (.tableswitch 97 0 5 #[37, 46, 56, 66, 76, 83], 37) by decide +kernel) hg hc (by decide) rfl (by decide) ?_
      refine x_aload_n (pc := 91) (show decode mX8_of.2.1 91 = .ok (.aload_n 0, 1) by decide +kernel) rfl rfl ?_
      refine x_getR (pc := 92) f8_31 rfl rfl (show decode mX8_of.2.1 92 = .ok (.getfield 31, 3) by decide +kernel) ?_
      refine x_iload_n (pc := 95) (show decode mX8_of.2.1 95 = .ok (.iload_n 1, 1) by decide +kernel) rfl rfl ?_
      obtain ⟨hg, hR⟩ := hR
      refine x_iald (pc := 96) rfl (by decide) hg (show decode mX8_of.2.1 96 = .ok (.iaload, 1) by decide +kernel) ?_
      exact x_iret (pc := 97) rfl (show decode mX8_of.2.1 97 = .ok (.ireturn, 1) by decide +kernel) ⟨_, rfl, hR⟩
    · replace hR := hR.2.2.2.2.2.1 hc
      refine x_tswAt (pc := 15) (n := 5) (tgt := 98) (show decode mX8_of.2.1 15 = .ok (.tableswitch 97 0 5 #[37, 46, 56, 66, 76, 83], 37) by decide +kernel) hg hc (by decide) rfl (by decide) ?_
      refine x_aload_n (pc := 98) (show decode mX8_of.2.1 98 = .ok (.aload_n 0, 1) by decide +kernel) rfl rfl ?_
      refine x_iload_n (pc := 99) (show decode mX8_of.2.1 99 = .ok (.iload_n 1, 1) by decide +kernel) rfl rfl ?_
      refine x_callV (pc := 100) (As := [.inl x1]) (rest := []) (lk8_127 rfl) im_X8_lacks sl_X8_lacks rfl rfl rfl (Nat.le_of_ble_eq_true rfl) (Nat.le_of_ble_eq_true rfl) (show decode mX8_of.2.1 100 = .ok (.invokevirtual 127, 3) by decide +kernel) hd hR (fun r9 h3 hq => ?_)
      obtain ⟨r8, rfl, hq⟩ := hq
      rcases hq with ⟨rfl, hR⟩ | ⟨rfl, hR⟩
      · show xG _ _ _ 103 _ [.inl 1] _ _
        refine x_if_eq (pc := 103) (tgt := 110) (show decode mX8_of.2.1 103 = .ok (.ifCond .eq 7, 3) by decide +kernel) (by decide) (by unfold inI; decide) (fun hc => absurd hc (by decide)) (fun _ => ?_)
        refine x_iconst (pc := 106) (n := 1) (show decode mX8_of.2.1 106 = .ok (.iconst 1, 1) by decide +kernel) ?_
        refine x_goto (pc := 107) (tgt := 111) (show decode mX8_of.2.1 107 = .ok (.goto 4, 3) by decide +kernel) (by decide) ?_
        exact x_iret (pc := 111) rfl (show decode mX8_of.2.1 111 = .ok (.ireturn, 1) by decide +kernel) ⟨_, rfl, hR⟩
      · show xG _ _ _ 103 _ [.inl 0] _ _
        refine x_if_eq (pc := 103) (tgt := 110) (show decode mX8_of.2.1 103 = .ok (.ifCond .eq 7, 3) by decide +kernel) (by decide) (by unfold inI; decide) (fun _ => ?_) (fun hc => absurd hc (by decide))
        refine x_iconst (pc := 110) (n := 0) (show decode mX8_of.2.1 110 = .ok (.iconst 0, 1) by decide +kernel) ?_
        exact x_iret (pc := 111) rfl (show decode mX8_of.2.1 111 = .ok (.ireturn, 1) by decide +kernel) ⟨_, rfl, hR⟩
    · replace hR := hR.2.2.2.2.2.2 hc
      refine x_tswOut (pc := 15) (tgt := 112) (show decode mX8_of.2.1 15 = .ok (.tableswitch 97 0 5 #[37, 46, 56, 66, 76, 83], 37) by decide +kernel) hg hc (by decide) ?_
      refine x_iconst (pc := 112) (n := (-1)) (show decode mX8_of.2.1 112 = .ok (.iconst (-1), 1) by decide +kernel) ?_
      exact x_iret (pc := 113) rfl (show decode mX8_of.2.1 113 = .ok (.ireturn, 1) by decide +kernel) ⟨_, rfl, hR⟩
  · show xG _ _ _ 5 _ [.inl 0] _ _
    refine x_if_ne (pc := 5) (tgt := 10) (show decode mX8_of.2.1 5 = .ok (.ifCond .ne 5, 3) by decide +kernel) (by decide) (by unfold inI; decide) (fun hc => absurd hc (by decide)) (fun _ => ?_)
    refine x_iconst (pc := 8) (n := (-1)) (show decode mX8_of.2.1 8 = .ok (.iconst (-1), 1) by decide +kernel) ?_
    exact x_iret (pc := 9) rfl (show decode mX8_of.2.1 9 = .ok (.ireturn, 1) by decide +kernel) ⟨_, rfl, hR⟩
set_option maxRecDepth 4000 in
theorem sg_X8_needs_0 {d : Nat} {x1 x2 : Int} {h : xH} {Q : Int → xH → Prop} (hd : 1 ≤ d)
    (hR : cB wdM (d - 1) mX8_isPin [.inr (.inr 0), .inl x1] h (fun h1 => inI x2 ∧ cB wdM (d - 1) mX8_isIn [.inr (.inl x2), .inr (.inl 0), .inr (.inl 2)] h1 (fun h2 => cV wdM (d - 1) mX8_findsAll [.inr (.inr 0)] h2 (fun h3 => (inI x2) ∧ (2 ≤ x2 → gL wdM d mX8_needs 58 [some (.inr (.inr 0)), some (.inl x1), none, some (.inr (.inl 0)), none, some (.inl 0)] h3 Q) ∧ (x2 < 2 → (inI x2) ∧ (¬ x2 = 0 → (0 ≤ x1 ∧ x1 < 30) ∧ Q (h3 5 x1) h3) ∧ (x2 = 0 → (0 ≤ x1 ∧ x1 < 30) ∧ Q (h3 4 x1) h3)))) (fun h2 => Q (-9223372036854775808) h2)) (fun h1 => Q (-9223372036854775808) h1)) :
    gL wdM d mX8_needs 0 [some (.inr (.inr 0)), some (.inl x1), some (.inl x2), none, none, none] h Q := by
  unfold gL
  refine x_aload_n (pc := 0) (show decode mX8_needs.2.1 0 = .ok (.aload_n 0, 1) by decide +kernel) rfl rfl ?_
  refine x_iload_n (pc := 1) (show decode mX8_needs.2.1 1 = .ok (.iload_n 1, 1) by decide +kernel) rfl rfl ?_
  refine x_callV (pc := 2) (As := [.inl x1]) (rest := []) (lk8_95 rfl) im_X8_isPin sl_X8_isPin rfl rfl rfl (Nat.le_of_ble_eq_true rfl) (Nat.le_of_ble_eq_true rfl) (show decode mX8_needs.2.1 2 = .ok (.invokevirtual 95, 3) by decide +kernel) hd hR (fun r9 h1 hq => ?_)
  obtain ⟨r8, rfl, hq⟩ := hq
  rcases hq with ⟨rfl, hR⟩ | ⟨rfl, hR⟩
  · show xG _ _ _ 5 _ [.inl 1] _ _
    refine x_if_eq (pc := 5) (tgt := 20) (show decode mX8_needs.2.1 5 = .ok (.ifCond .eq 15, 3) by decide +kernel) (by decide) (by unfold inI; decide) (fun hc => absurd hc (by decide)) (fun _ => ?_)
    refine x_iload_n (pc := 8) (show decode mX8_needs.2.1 8 = .ok (.iload_n 2, 1) by decide +kernel) rfl rfl ?_
    obtain ⟨hg, hR⟩ := hR
    refine x_i2l (pc := 9) (show decode mX8_needs.2.1 9 = .ok (.i2l, 1) by decide +kernel) hg ?_
    refine x_lconst (pc := 10) (v := 0) (show decode mX8_needs.2.1 10 = .ok (.lconst 0, 1) by decide +kernel) rfl ?_
    refine x_ldc2 (pc := 11) (n := 2) (tblG_m5 92 rfl rfl) rfl (show decode mX8_needs.2.1 11 = .ok (.ldc2_w 83, 3) by decide +kernel) ?_
    refine x_callS (pc := 14) (As := [.inr (.inl x2), .inr (.inl 0), .inr (.inl 2)]) (rest := []) (lk8_79 rfl) sm_X8_isIn (Nat.le_of_ble_eq_true rfl) (Nat.le_of_ble_eq_true rfl) (show decode mX8_needs.2.1 14 = .ok (.invokestatic 79, 3) by decide +kernel) hd hR (fun r9 h2 hq => ?_)
    obtain ⟨r8, rfl, hq⟩ := hq
    rcases hq with ⟨rfl, hR⟩ | ⟨rfl, hR⟩
    · show xG _ _ _ 17 _ [.inl 1] _ _
      refine x_if_ne (pc := 17) (tgt := 24) (show decode mX8_needs.2.1 17 = .ok (.ifCond .ne 7, 3) by decide +kernel) (by decide) (by unfold inI; decide) (fun _ => ?_) (fun hc => absurd hc (by decide))
      refine x_aload_n (pc := 24) (show decode mX8_needs.2.1 24 = .ok (.aload_n 0, 1) by decide +kernel) rfl rfl ?_
      refine x_callV (pc := 25) (As := []) (rest := []) (lk8_136 rfl) im_X8_findsAll sl_X8_findsAll rfl rfl rfl (Nat.le_of_ble_eq_true rfl) (Nat.le_of_ble_eq_true rfl) (show decode mX8_needs.2.1 25 = .ok (.invokevirtual 136, 3) by decide +kernel) hd hR (fun r9 h3 hq => ?_)
      obtain ⟨rfl, hR⟩ := hq
      show xG _ _ _ 28 _ [] _ _
      refine x_iload_n (pc := 28) (show decode mX8_needs.2.1 28 = .ok (.iload_n 2, 1) by decide +kernel) rfl rfl ?_
      refine x_iconst (pc := 29) (n := 2) (show decode mX8_needs.2.1 29 = .ok (.iconst 2, 1) by decide +kernel) ?_
      obtain ⟨hg, hR⟩ := hR
      refine x_icmp_ge (pc := 30) (tgt := 53) (show decode mX8_needs.2.1 30 = .ok (.if_icmp .ge 23, 3) by decide +kernel) (by decide) ⟨hg, (by unfold inI; decide)⟩ (fun hc => ?_) (fun hc => ?_)
      · replace hR := hR.1 hc
        refine x_lconst (pc := 53) (v := 0) (show decode mX8_needs.2.1 53 = .ok (.lconst 0, 1) by decide +kernel) rfl ?_
        refine x_lstore_n (pc := 54) (ls' := [some (.inr (.inr 0)), some (.inl x1), some (.inl x2), some (.inr (.inl 0)), none, none]) (show decode mX8_needs.2.1 54 = .ok (.lstore_n 3, 1) by decide +kernel) rfl (by decide) rfl ?_
        refine x_iconst (pc := 55) (n := 0) (show decode mX8_needs.2.1 55 = .ok (.iconst 0, 1) by decide +kernel) ?_
        refine x_istore (pc := 56) (ls' := [some (.inr (.inr 0)), some (.inl x1), some (.inl x2), some (.inr (.inl 0)), none, some (.inl 0)]) (show decode mX8_needs.2.1 56 = .ok (.istore 5, 2) by decide +kernel) (by decide) rfl ?_
        exact x_weak (xle_get (by repeat' constructor)) hR
      · replace hR := hR.2 hc
        refine x_iload_n (pc := 33) (show decode mX8_needs.2.1 33 = .ok (.iload_n 2, 1) by decide +kernel) rfl rfl ?_
        obtain ⟨hg, hR⟩ := hR
        refine x_if_ne (pc := 34) (tgt := 46) (show decode mX8_needs.2.1 34 = .ok (.ifCond .ne 12, 3) by decide +kernel) (by decide) hg (fun hc => ?_) (fun hc => ?_)
        · replace hR := hR.1 hc
          refine x_aload_n (pc := 46) (show decode mX8_needs.2.1 46 = .ok (.aload_n 0, 1) by decide +kernel) rfl rfl ?_
          refine x_getR (pc := 47) f8_25 rfl rfl (show decode mX8_needs.2.1 47 = .ok (.getfield 25, 3) by decide +kernel) ?_
          refine x_iload_n (pc := 50) (show decode mX8_needs.2.1 50 = .ok (.iload_n 1, 1) by decide +kernel) rfl rfl ?_
          obtain ⟨hg, hR⟩ := hR
          refine x_lald (pc := 51) rfl (by decide) hg (show decode mX8_needs.2.1 51 = .ok (.laload, 1) by decide +kernel) ?_
          exact x_lret (pc := 52) rfl (show decode mX8_needs.2.1 52 = .ok (.lreturn, 1) by decide +kernel) ⟨_, rfl, hR⟩
        · replace hR := hR.2 hc
          refine x_aload_n (pc := 37) (show decode mX8_needs.2.1 37 = .ok (.aload_n 0, 1) by decide +kernel) rfl rfl ?_
          refine x_getR (pc := 38) f8_21 rfl rfl (show decode mX8_needs.2.1 38 = .ok (.getfield 21, 3) by decide +kernel) ?_
          refine x_iload_n (pc := 41) (show decode mX8_needs.2.1 41 = .ok (.iload_n 1, 1) by decide +kernel) rfl rfl ?_
          obtain ⟨hg, hR⟩ := hR
          refine x_lald (pc := 42) rfl (by decide) hg (show decode mX8_needs.2.1 42 = .ok (.laload, 1) by decide +kernel) ?_
          refine x_goto (pc := 43) (tgt := 52) (show decode mX8_needs.2.1 43 = .ok (.goto 9, 3) by decide +kernel) (by decide) ?_
          exact x_lret (pc := 52) rfl (show decode mX8_needs.2.1 52 = .ok (.lreturn, 1) by decide +kernel) ⟨_, rfl, hR⟩
    · show xG _ _ _ 17 _ [.inl 0] _ _
      refine x_if_ne (pc := 17) (tgt := 24) (show decode mX8_needs.2.1 17 = .ok (.ifCond .ne 7, 3) by decide +kernel) (by decide) (by unfold inI; decide) (fun hc => absurd hc (by decide)) (fun _ => ?_)
      refine x_ldc2 (pc := 20) (n := (-9223372036854775808)) (tblG_m5 184 rfl rfl) rfl (show decode mX8_needs.2.1 20 = .ok (.ldc2_w 139, 3) by decide +kernel) ?_
      exact x_lret (pc := 23) rfl (show decode mX8_needs.2.1 23 = .ok (.lreturn, 1) by decide +kernel) ⟨_, rfl, hR⟩
  · show xG _ _ _ 5 _ [.inl 0] _ _
    refine x_if_eq (pc := 5) (tgt := 20) (show decode mX8_needs.2.1 5 = .ok (.ifCond .eq 15, 3) by decide +kernel) (by decide) (by unfold inI; decide) (fun _ => ?_) (fun hc => absurd hc (by decide))
    refine x_ldc2 (pc := 20) (n := (-9223372036854775808)) (tblG_m5 184 rfl rfl) rfl (show decode mX8_needs.2.1 20 = .ok (.ldc2_w 139, 3) by decide +kernel) ?_
    exact x_lret (pc := 23) rfl (show decode mX8_needs.2.1 23 = .ok (.lreturn, 1) by decide +kernel) ⟨_, rfl, hR⟩
set_option maxRecDepth 4000 in
theorem sg_X8_needs_58 {d : Nat} {x1 x3 x5 : Int} {h : xH} {Q : Int → xH → Prop}
    (hR : (inI x5 ∧ inI (h 1 1)) ∧ ((h 1 1) ≤ x5 → Q x3 h) ∧ (x5 < (h 1 1) → (0 ≤ x5 ∧ x5 < 30) ∧ (inL (h 5 x5) ∧ 0 ≤ x1 ∧ x1 ≤ 63) ∧ (0 ≤ x5 ∧ x5 ≤ 63) ∧ gL wdM d mX8_needs 58 [some (.inr (.inr 0)), some (.inl x1), none, some (.inr (.inl (xorL x3 ((xandL ((h 5 x5) / 2 ^ (Int.toNat x1)) 1) * 2 ^ (Int.toNat x5))))), none, some (.inl (x5 + 1))] h Q)) :
    gL wdM d mX8_needs 58 [some (.inr (.inr 0)), some (.inl x1), none, some (.inr (.inl x3)), none, some (.inl x5)] h Q := by
  unfold gL
  refine x_iload (pc := 58) (show decode mX8_needs.2.1 58 = .ok (.iload 5, 2) by decide +kernel) rfl ?_
  refine x_aload_n (pc := 60) (show decode mX8_needs.2.1 60 = .ok (.aload_n 0, 1) by decide +kernel) rfl rfl ?_
  refine x_getR (pc := 61) f8_11 rfl rfl (show decode mX8_needs.2.1 61 = .ok (.getfield 11, 3) by decide +kernel) ?_
  refine x_iconst (pc := 64) (n := 1) (show decode mX8_needs.2.1 64 = .ok (.iconst 1, 1) by decide +kernel) ?_
  refine x_iald (pc := 65) rfl (by decide) (by decide) (show decode mX8_needs.2.1 65 = .ok (.iaload, 1) by decide +kernel) ?_
  obtain ⟨hg, hR⟩ := hR
  refine x_icmp_ge (pc := 66) (tgt := 92) (show decode mX8_needs.2.1 66 = .ok (.if_icmp .ge 26, 3) by decide +kernel) (by decide) ⟨hg.1, hg.2⟩ (fun hc => ?_) (fun hc => ?_)
  · replace hR := hR.1 hc
    refine x_lload_n (pc := 92) (show decode mX8_needs.2.1 92 = .ok (.lload_n 3, 1) by decide +kernel) rfl rfl ?_
    exact x_lret (pc := 93) rfl (show decode mX8_needs.2.1 93 = .ok (.lreturn, 1) by decide +kernel) ⟨_, rfl, hR⟩
  · replace hR := hR.2 hc
    refine x_lload_n (pc := 69) (show decode mX8_needs.2.1 69 = .ok (.lload_n 3, 1) by decide +kernel) rfl rfl ?_
    refine x_aload_n (pc := 70) (show decode mX8_needs.2.1 70 = .ok (.aload_n 0, 1) by decide +kernel) rfl rfl ?_
    refine x_getR (pc := 71) f8_25 rfl rfl (show decode mX8_needs.2.1 71 = .ok (.getfield 25, 3) by decide +kernel) ?_
    refine x_iload (pc := 74) (show decode mX8_needs.2.1 74 = .ok (.iload 5, 2) by decide +kernel) rfl ?_
    obtain ⟨hg, hR⟩ := hR
    refine x_lald (pc := 76) rfl (by decide) hg (show decode mX8_needs.2.1 76 = .ok (.laload, 1) by decide +kernel) ?_
    refine x_iload_n (pc := 77) (show decode mX8_needs.2.1 77 = .ok (.iload_n 1, 1) by decide +kernel) rfl rfl ?_
    obtain ⟨hg, hR⟩ := hR
    refine x_lshr (pc := 78) (show decode mX8_needs.2.1 78 = .ok (.lshr, 1) by decide +kernel) hg ?_
    refine x_lconst (pc := 79) (v := 1) (show decode mX8_needs.2.1 79 = .ok (.lconst 1, 1) by decide +kernel) rfl ?_
    refine x_land (pc := 80) (show decode mX8_needs.2.1 80 = .ok (.land, 1) by decide +kernel) ?_
    refine x_iload (pc := 81) (show decode mX8_needs.2.1 81 = .ok (.iload 5, 2) by decide +kernel) rfl ?_
    obtain ⟨hg, hR⟩ := hR
    refine x_lshl (pc := 83) (show decode mX8_needs.2.1 83 = .ok (.lshl, 1) by decide +kernel) hg ?_
    refine x_lor (pc := 84) (show decode mX8_needs.2.1 84 = .ok (.lor, 1) by decide +kernel) ?_
    refine x_lstore_n (pc := 85) (ls' := [some (.inr (.inr 0)), some (.inl x1), none, some (.inr (.inl (xorL x3 ((xandL ((h 5 x5) / 2 ^ (Int.toNat x1)) 1) * 2 ^ (Int.toNat x5))))), none, some (.inl x5)]) (show decode mX8_needs.2.1 85 = .ok (.lstore_n 3, 1) by decide +kernel) rfl (by decide) rfl ?_
    refine x_iinc (pc := 86) (ls' := [some (.inr (.inr 0)), some (.inl x1), none, some (.inr (.inl (xorL x3 ((xandL ((h 5 x5) / 2 ^ (Int.toNat x1)) 1) * 2 ^ (Int.toNat x5))))), none, some (.inl (x5 + 1))]) (show decode mX8_needs.2.1 86 = .ok (.iinc 5 1, 3) by decide +kernel) (by decide) rfl rfl ?_
    refine x_goto (pc := 89) (tgt := 58) (show decode mX8_needs.2.1 89 = .ok (.goto (-31), 3) by decide +kernel) (by decide) ?_
    exact hR
set_option maxRecDepth 4000 in
theorem sg_X8_pins_0 {d : Nat} {x1 : Int} {h : xH} {Q : Int → xH → Prop} (hd : 1 ≤ d)
    (hR : inI x1 ∧ cB wdM (d - 1) mX8_isIn [.inr (.inl x1), .inr (.inl 0), .inr (.inl 2)] h (fun h1 => cV wdM (d - 1) mX8_findsAll [.inr (.inr 0)] h1 (fun h2 => gL wdM d mX8_pins 25 [some (.inr (.inr 0)), some (.inl x1), some (.inr (.inl 0)), none, some (.inl 0), none] h2 Q)) (fun h1 => Q (-9223372036854775808) h1)) :
    gL wdM d mX8_pins 0 [some (.inr (.inr 0)), some (.inl x1), none, none, none, none] h Q := by
  unfold gL
  refine x_iload_n (pc := 0) (show decode mX8_pins.2.1 0 = .ok (.iload_n 1, 1) by decide +kernel) rfl rfl ?_
  obtain ⟨hg, hR⟩ := hR
  refine x_i2l (pc := 1) (show decode mX8_pins.2.1 1 = .ok (.i2l, 1) by decide +kernel) hg ?_
  refine x_lconst (pc := 2) (v := 0) (show decode mX8_pins.2.1 2 = .ok (.lconst 0, 1) by decide +kernel) rfl ?_
  refine x_ldc2 (pc := 3) (n := 2) (tblG_m5 92 rfl rfl) rfl (show decode mX8_pins.2.1 3 = .ok (.ldc2_w 83, 3) by decide +kernel) ?_
  refine x_callS (pc := 6) (As := [.inr (.inl x1), .inr (.inl 0), .inr (.inl 2)]) (rest := []) (lk8_79 rfl) sm_X8_isIn (Nat.le_of_ble_eq_true rfl) (Nat.le_of_ble_eq_true rfl) (show decode mX8_pins.2.1 6 = .ok (.invokestatic 79, 3) by decide +kernel) hd hR (fun r9 h1 hq => ?_)
  obtain ⟨r8, rfl, hq⟩ := hq
  rcases hq with ⟨rfl, hR⟩ | ⟨rfl, hR⟩
  · show xG _ _ _ 9 _ [.inl 1] _ _
    refine x_if_ne (pc := 9) (tgt := 16) (show decode mX8_pins.2.1 9 = .ok (.ifCond .ne 7, 3) by decide +kernel) (by decide) (by unfold inI; decide) (fun _ => ?_) (fun hc => absurd hc (by decide))
    refine x_aload_n (pc := 16) (show decode mX8_pins.2.1 16 = .ok (.aload_n 0, 1) by decide +kernel) rfl rfl ?_
    refine x_callV (pc := 17) (As := []) (rest := []) (lk8_136 rfl) im_X8_findsAll sl_X8_findsAll rfl rfl rfl (Nat.le_of_ble_eq_true rfl) (Nat.le_of_ble_eq_true rfl) (show decode mX8_pins.2.1 17 = .ok (.invokevirtual 136, 3) by decide +kernel) hd hR (fun r9 h2 hq => ?_)
    obtain ⟨rfl, hR⟩ := hq
    show xG _ _ _ 20 _ [] _ _
    refine x_lconst (pc := 20) (v := 0) (show decode mX8_pins.2.1 20 = .ok (.lconst 0, 1) by decide +kernel) rfl ?_
    refine x_lstore_n (pc := 21) (ls' := [some (.inr (.inr 0)), some (.inl x1), some (.inr (.inl 0)), none, none, none]) (show decode mX8_pins.2.1 21 = .ok (.lstore_n 2, 1) by decide +kernel) rfl (by decide) rfl ?_
    refine x_iconst (pc := 22) (n := 0) (show decode mX8_pins.2.1 22 = .ok (.iconst 0, 1) by decide +kernel) ?_
    refine x_istore (pc := 23) (ls' := [some (.inr (.inr 0)), some (.inl x1), some (.inr (.inl 0)), none, some (.inl 0), none]) (show decode mX8_pins.2.1 23 = .ok (.istore 4, 2) by decide +kernel) (by decide) rfl ?_
    exact hR
  · show xG _ _ _ 9 _ [.inl 0] _ _
    refine x_if_ne (pc := 9) (tgt := 16) (show decode mX8_pins.2.1 9 = .ok (.ifCond .ne 7, 3) by decide +kernel) (by decide) (by unfold inI; decide) (fun hc => absurd hc (by decide)) (fun _ => ?_)
    refine x_ldc2 (pc := 12) (n := (-9223372036854775808)) (tblG_m5 184 rfl rfl) rfl (show decode mX8_pins.2.1 12 = .ok (.ldc2_w 139, 3) by decide +kernel) ?_
    exact x_lret (pc := 15) rfl (show decode mX8_pins.2.1 15 = .ok (.lreturn, 1) by decide +kernel) ⟨_, rfl, hR⟩
set_option maxRecDepth 4000 in
theorem sg_X8_pins_25 {d : Nat} {x1 x2 x4 : Int} {h : xH} {Q : Int → xH → Prop} (hd : 1 ≤ d)
    (hR : (inI x4 ∧ inI (h 1 1)) ∧ ((h 1 1) ≤ x4 → Q x2 h) ∧ (x4 < (h 1 1) → (inI x1) ∧ (¬ x1 = 0 → (inI x1) ∧ (¬ x1 = 1 → (0 ≤ (95 + x4) ∧ (95 + x4) < 1705) ∧ (inI (h 1 (95 + x4))) ∧ (¬ (h 1 (95 + x4)) = 1 → gL wdM d mX8_pins 25 [some (.inr (.inr 0)), some (.inl x1), some (.inr (.inl (xorL x2 0))), none, some (.inl (x4 + 1)), none] h Q) ∧ ((h 1 (95 + x4)) = 1 → (0 ≤ x4 ∧ x4 ≤ 63) ∧ gL wdM d mX8_pins 25 [some (.inr (.inr 0)), some (.inl x1), some (.inr (.inl (xorL x2 (1 * 2 ^ (Int.toNat x4))))), none, some (.inl (x4 + 1)), none] h Q)) ∧ (x1 = 1 → cI wdM (d - 1) mX8_isReady [.inr (.inr 0), .inl x4] h (fun r2 h1 => (inI r2) ∧ (r2 = 0 → gL wdM d mX8_pins 25 [some (.inr (.inr 0)), some (.inl x1), some (.inr (.inl (xorL x2 0))), none, some (.inl (x4 + 1)), none] h1 Q) ∧ (¬ r2 = 0 → (0 ≤ x4 ∧ x4 ≤ 63) ∧ gL wdM d mX8_pins 25 [some (.inr (.inr 0)), some (.inl x1), some (.inr (.inl (xorL x2 (1 * 2 ^ (Int.toNat x4))))), none, some (.inl (x4 + 1)), none] h1 Q)))) ∧ (x1 = 0 → cI wdM (d - 1) mX8_lacks [.inr (.inr 0), .inl x4] h (fun r4 h3 => (inI r4) ∧ (r4 = 0 → gL wdM d mX8_pins 25 [some (.inr (.inr 0)), some (.inl x1), some (.inr (.inl (xorL x2 0))), none, some (.inl (x4 + 1)), none] h3 Q) ∧ (¬ r4 = 0 → (0 ≤ x4 ∧ x4 ≤ 63) ∧ gL wdM d mX8_pins 25 [some (.inr (.inr 0)), some (.inl x1), some (.inr (.inl (xorL x2 (1 * 2 ^ (Int.toNat x4))))), none, some (.inl (x4 + 1)), none] h3 Q))))) :
    gL wdM d mX8_pins 25 [some (.inr (.inr 0)), some (.inl x1), some (.inr (.inl x2)), none, some (.inl x4), none] h Q := by
  unfold gL
  refine x_iload (pc := 25) (show decode mX8_pins.2.1 25 = .ok (.iload 4, 2) by decide +kernel) rfl ?_
  refine x_aload_n (pc := 27) (show decode mX8_pins.2.1 27 = .ok (.aload_n 0, 1) by decide +kernel) rfl rfl ?_
  refine x_getR (pc := 28) f8_11 rfl rfl (show decode mX8_pins.2.1 28 = .ok (.getfield 11, 3) by decide +kernel) ?_
  refine x_iconst (pc := 31) (n := 1) (show decode mX8_pins.2.1 31 = .ok (.iconst 1, 1) by decide +kernel) ?_
  refine x_iald (pc := 32) rfl (by decide) (by decide) (show decode mX8_pins.2.1 32 = .ok (.iaload, 1) by decide +kernel) ?_
  obtain ⟨hg, hR⟩ := hR
  refine x_icmp_ge (pc := 33) (tgt := 106) (show decode mX8_pins.2.1 33 = .ok (.if_icmp .ge 73, 3) by decide +kernel) (by decide) ⟨hg.1, hg.2⟩ (fun hc => ?_) (fun hc => ?_)
  · replace hR := hR.1 hc
    refine x_lload_n (pc := 106) (show decode mX8_pins.2.1 106 = .ok (.lload_n 2, 1) by decide +kernel) rfl rfl ?_
    exact x_lret (pc := 107) rfl (show decode mX8_pins.2.1 107 = .ok (.lreturn, 1) by decide +kernel) ⟨_, rfl, hR⟩
  · replace hR := hR.2 hc
    refine x_iload_n (pc := 36) (show decode mX8_pins.2.1 36 = .ok (.iload_n 1, 1) by decide +kernel) rfl rfl ?_
    obtain ⟨hg, hR⟩ := hR
    refine x_if_ne (pc := 37) (tgt := 49) (show decode mX8_pins.2.1 37 = .ok (.ifCond .ne 12, 3) by decide +kernel) (by decide) hg (fun hc => ?_) (fun hc => ?_)
    · replace hR := hR.1 hc
      refine x_iload_n (pc := 49) (show decode mX8_pins.2.1 49 = .ok (.iload_n 1, 1) by decide +kernel) rfl rfl ?_
      refine x_iconst (pc := 50) (n := 1) (show decode mX8_pins.2.1 50 = .ok (.iconst 1, 1) by decide +kernel) ?_
      obtain ⟨hg, hR⟩ := hR
      refine x_icmp_ne (pc := 51) (tgt := 63) (show decode mX8_pins.2.1 51 = .ok (.if_icmp .ne 12, 3) by decide +kernel) (by decide) ⟨hg, (by unfold inI; decide)⟩ (fun hc => ?_) (fun hc => ?_)
      · replace hR := hR.1 hc
        refine x_aload_n (pc := 63) (show decode mX8_pins.2.1 63 = .ok (.aload_n 0, 1) by decide +kernel) rfl rfl ?_
        refine x_getR (pc := 64) f8_11 rfl rfl (show decode mX8_pins.2.1 64 = .ok (.getfield 11, 3) by decide +kernel) ?_
        refine x_bipush (pc := 67) (n := 95) (show decode mX8_pins.2.1 67 = .ok (.bipush 95, 2) by decide +kernel) rfl ?_
        refine x_iload (pc := 69) (show decode mX8_pins.2.1 69 = .ok (.iload 4, 2) by decide +kernel) rfl ?_
        refine x_iadd (pc := 71) (show decode mX8_pins.2.1 71 = .ok (.iadd, 1) by decide +kernel) ?_
        obtain ⟨hg, hR⟩ := hR
        refine x_iald (pc := 72) rfl (by decide) hg (show decode mX8_pins.2.1 72 = .ok (.iaload, 1) by decide +kernel) ?_
        refine x_iconst (pc := 73) (n := 1) (show decode mX8_pins.2.1 73 = .ok (.iconst 1, 1) by decide +kernel) ?_
        obtain ⟨hg, hR⟩ := hR
        refine x_icmp_ne (pc := 74) (tgt := 81) (show decode mX8_pins.2.1 74 = .ok (.if_icmp .ne 7, 3) by decide +kernel) (by decide) ⟨hg, (by unfold inI; decide)⟩ (fun hc => ?_) (fun hc => ?_)
        · replace hR := hR.1 hc
          refine x_iconst (pc := 81) (n := 0) (show decode mX8_pins.2.1 81 = .ok (.iconst 0, 1) by decide +kernel) ?_
          refine x_istore (pc := 82) (ls' := [some (.inr (.inr 0)), some (.inl x1), some (.inr (.inl x2)), none, some (.inl x4), some (.inl 0)]) (show decode mX8_pins.2.1 82 = .ok (.istore 5, 2) by decide +kernel) (by decide) rfl ?_
          refine x_lload_n (pc := 84) (show decode mX8_pins.2.1 84 = .ok (.lload_n 2, 1) by decide +kernel) rfl rfl ?_
          refine x_iload (pc := 85) (show decode mX8_pins.2.1 85 = .ok (.iload 5, 2) by decide +kernel) rfl ?_
          refine x_if_eq (pc := 87) (tgt := 97) (show decode mX8_pins.2.1 87 = .ok (.ifCond .eq 10, 3) by decide +kernel) (by decide) (by unfold inI; decide) (fun _ => ?_) (fun hc => absurd hc (by decide))
          refine x_lconst (pc := 97) (v := 0) (show decode mX8_pins.2.1 97 = .ok (.lconst 0, 1) by decide +kernel) rfl ?_
          refine x_lor (pc := 98) (show decode mX8_pins.2.1 98 = .ok (.lor, 1) by decide +kernel) ?_
          refine x_lstore_n (pc := 99) (ls' := [some (.inr (.inr 0)), some (.inl x1), some (.inr (.inl (xorL x2 0))), none, some (.inl x4), some (.inl 0)]) (show decode mX8_pins.2.1 99 = .ok (.lstore_n 2, 1) by decide +kernel) rfl (by decide) rfl ?_
          refine x_iinc (pc := 100) (ls' := [some (.inr (.inr 0)), some (.inl x1), some (.inr (.inl (xorL x2 0))), none, some (.inl (x4 + 1)), some (.inl 0)]) (show decode mX8_pins.2.1 100 = .ok (.iinc 4 1, 3) by decide +kernel) (by decide) rfl rfl ?_
          refine x_goto (pc := 103) (tgt := 25) (show decode mX8_pins.2.1 103 = .ok (.goto (-78), 3) by decide +kernel) (by decide) ?_
          exact x_weak (xle_get (by repeat' constructor)) hR
        · replace hR := hR.2 hc
          refine x_iconst (pc := 77) (n := 1) (show decode mX8_pins.2.1 77 = .ok (.iconst 1, 1) by decide +kernel) ?_
          refine x_goto (pc := 78) (tgt := 82) (show decode mX8_pins.2.1 78 = .ok (.goto 4, 3) by decide +kernel) (by decide) ?_
          refine x_istore (pc := 82) (ls' := [some (.inr (.inr 0)), some (.inl x1), some (.inr (.inl x2)), none, some (.inl x4), some (.inl 1)]) (show decode mX8_pins.2.1 82 = .ok (.istore 5, 2) by decide +kernel) (by decide) rfl ?_
          refine x_lload_n (pc := 84) (show decode mX8_pins.2.1 84 = .ok (.lload_n 2, 1) by decide +kernel) rfl rfl ?_
          refine x_iload (pc := 85) (show decode mX8_pins.2.1 85 = .ok (.iload 5, 2) by decide +kernel) rfl ?_
          refine x_if_eq (pc := 87) (tgt := 97) (show decode mX8_pins.2.1 87 = .ok (.ifCond .eq 10, 3) by decide +kernel) (by decide) (by unfold inI; decide) (fun hc => absurd hc (by decide)) (fun _ => ?_)
          refine x_lconst (pc := 90) (v := 1) (show decode mX8_pins.2.1 90 = .ok (.lconst 1, 1) by decide +kernel) rfl ?_
          refine x_iload (pc := 91) (show decode mX8_pins.2.1 91 = .ok (.iload 4, 2) by decide +kernel) rfl ?_
          obtain ⟨hg, hR⟩ := hR
          refine x_lshl (pc := 93) (show decode mX8_pins.2.1 93 = .ok (.lshl, 1) by decide +kernel) hg ?_
          refine x_goto (pc := 94) (tgt := 98) (show decode mX8_pins.2.1 94 = .ok (.goto 4, 3) by decide +kernel) (by decide) ?_
          refine x_lor (pc := 98) (show decode mX8_pins.2.1 98 = .ok (.lor, 1) by decide +kernel) ?_
          refine x_lstore_n (pc := 99) (ls' := [some (.inr (.inr 0)), some (.inl x1), some (.inr (.inl (xorL x2 (1 * 2 ^ (Int.toNat x4))))), none, some (.inl x4), some (.inl 1)]) (show decode mX8_pins.2.1 99 = .ok (.lstore_n 2, 1) by decide +kernel) rfl (by decide) rfl ?_
          refine x_iinc (pc := 100) (ls' := [some (.inr (.inr 0)), some (.inl x1), some (.inr (.inl (xorL x2 (1 * 2 ^ (Int.toNat x4))))), none, some (.inl (x4 + 1)), some (.inl 1)]) (show decode mX8_pins.2.1 100 = .ok (.iinc 4 1, 3) by decide +kernel) (by decide) rfl rfl ?_
          refine x_goto (pc := 103) (tgt := 25) (show decode mX8_pins.2.1 103 = .ok (.goto (-78), 3) by decide +kernel) (by decide) ?_
          exact x_weak (xle_get (by repeat' constructor)) hR
      · replace hR := hR.2 hc
        refine x_aload_n (pc := 54) (show decode mX8_pins.2.1 54 = .ok (.aload_n 0, 1) by decide +kernel) rfl rfl ?_
        refine x_iload (pc := 55) (show decode mX8_pins.2.1 55 = .ok (.iload 4, 2) by decide +kernel) rfl ?_
        refine x_callV (pc := 57) (As := [.inl x4]) (rest := []) (lk8_141 rfl) im_X8_isReady sl_X8_isReady rfl rfl rfl (Nat.le_of_ble_eq_true rfl) (Nat.le_of_ble_eq_true rfl) (show decode mX8_pins.2.1 57 = .ok (.invokevirtual 141, 3) by decide +kernel) hd hR (fun r9 h1 hq => ?_)
        obtain ⟨r2, rfl, hR⟩ := hq
        show xG _ _ _ 60 _ [.inl r2] _ _
        refine x_goto (pc := 60) (tgt := 82) (show decode mX8_pins.2.1 60 = .ok (.goto 22, 3) by decide +kernel) (by decide) ?_
        refine x_istore (pc := 82) (ls' := [some (.inr (.inr 0)), some (.inl x1), some (.inr (.inl x2)), none, some (.inl x4), some (.inl r2)]) (show decode mX8_pins.2.1 82 = .ok (.istore 5, 2) by decide +kernel) (by decide) rfl ?_
        refine x_lload_n (pc := 84) (show decode mX8_pins.2.1 84 = .ok (.lload_n 2, 1) by decide +kernel) rfl rfl ?_
        refine x_iload (pc := 85) (show decode mX8_pins.2.1 85 = .ok (.iload 5, 2) by decide +kernel) rfl ?_
        obtain ⟨hg, hR⟩ := hR
        refine x_if_eq (pc := 87) (tgt := 97) (show decode mX8_pins.2.1 87 = .ok (.ifCond .eq 10, 3) by decide +kernel) (by decide) hg (fun hc => ?_) (fun hc => ?_)
        · replace hR := hR.1 hc
          refine x_lconst (pc := 97) (v := 0) (show decode mX8_pins.2.1 97 = .ok (.lconst 0, 1) by decide +kernel) rfl ?_
          refine x_lor (pc := 98) (show decode mX8_pins.2.1 98 = .ok (.lor, 1) by decide +kernel) ?_
          refine x_lstore_n (pc := 99) (ls' := [some (.inr (.inr 0)), some (.inl x1), some (.inr (.inl (xorL x2 0))), none, some (.inl x4), some (.inl r2)]) (show decode mX8_pins.2.1 99 = .ok (.lstore_n 2, 1) by decide +kernel) rfl (by decide) rfl ?_
          refine x_iinc (pc := 100) (ls' := [some (.inr (.inr 0)), some (.inl x1), some (.inr (.inl (xorL x2 0))), none, some (.inl (x4 + 1)), some (.inl r2)]) (show decode mX8_pins.2.1 100 = .ok (.iinc 4 1, 3) by decide +kernel) (by decide) rfl rfl ?_
          refine x_goto (pc := 103) (tgt := 25) (show decode mX8_pins.2.1 103 = .ok (.goto (-78), 3) by decide +kernel) (by decide) ?_
          exact x_weak (xle_get (by repeat' constructor)) hR
        · replace hR := hR.2 hc
          refine x_lconst (pc := 90) (v := 1) (show decode mX8_pins.2.1 90 = .ok (.lconst 1, 1) by decide +kernel) rfl ?_
          refine x_iload (pc := 91) (show decode mX8_pins.2.1 91 = .ok (.iload 4, 2) by decide +kernel) rfl ?_
          obtain ⟨hg, hR⟩ := hR
          refine x_lshl (pc := 93) (show decode mX8_pins.2.1 93 = .ok (.lshl, 1) by decide +kernel) hg ?_
          refine x_goto (pc := 94) (tgt := 98) (show decode mX8_pins.2.1 94 = .ok (.goto 4, 3) by decide +kernel) (by decide) ?_
          refine x_lor (pc := 98) (show decode mX8_pins.2.1 98 = .ok (.lor, 1) by decide +kernel) ?_
          refine x_lstore_n (pc := 99) (ls' := [some (.inr (.inr 0)), some (.inl x1), some (.inr (.inl (xorL x2 (1 * 2 ^ (Int.toNat x4))))), none, some (.inl x4), some (.inl r2)]) (show decode mX8_pins.2.1 99 = .ok (.lstore_n 2, 1) by decide +kernel) rfl (by decide) rfl ?_
          refine x_iinc (pc := 100) (ls' := [some (.inr (.inr 0)), some (.inl x1), some (.inr (.inl (xorL x2 (1 * 2 ^ (Int.toNat x4))))), none, some (.inl (x4 + 1)), some (.inl r2)]) (show decode mX8_pins.2.1 100 = .ok (.iinc 4 1, 3) by decide +kernel) (by decide) rfl rfl ?_
          refine x_goto (pc := 103) (tgt := 25) (show decode mX8_pins.2.1 103 = .ok (.goto (-78), 3) by decide +kernel) (by decide) ?_
          exact x_weak (xle_get (by repeat' constructor)) hR
    · replace hR := hR.2 hc
      refine x_aload_n (pc := 40) (show decode mX8_pins.2.1 40 = .ok (.aload_n 0, 1) by decide +kernel) rfl rfl ?_
      refine x_iload (pc := 41) (show decode mX8_pins.2.1 41 = .ok (.iload 4, 2) by decide +kernel) rfl ?_
      refine x_callV (pc := 43) (As := [.inl x4]) (rest := []) (lk8_127 rfl) im_X8_lacks sl_X8_lacks rfl rfl rfl (Nat.le_of_ble_eq_true rfl) (Nat.le_of_ble_eq_true rfl) (show decode mX8_pins.2.1 43 = .ok (.invokevirtual 127, 3) by decide +kernel) hd hR (fun r9 h3 hq => ?_)
      obtain ⟨r4, rfl, hR⟩ := hq
      show xG _ _ _ 46 _ [.inl r4] _ _
      refine x_goto (pc := 46) (tgt := 82) (show decode mX8_pins.2.1 46 = .ok (.goto 36, 3) by decide +kernel) (by decide) ?_
      refine x_istore (pc := 82) (ls' := [some (.inr (.inr 0)), some (.inl x1), some (.inr (.inl x2)), none, some (.inl x4), some (.inl r4)]) (show decode mX8_pins.2.1 82 = .ok (.istore 5, 2) by decide +kernel) (by decide) rfl ?_
      refine x_lload_n (pc := 84) (show decode mX8_pins.2.1 84 = .ok (.lload_n 2, 1) by decide +kernel) rfl rfl ?_
      refine x_iload (pc := 85) (show decode mX8_pins.2.1 85 = .ok (.iload 5, 2) by decide +kernel) rfl ?_
      obtain ⟨hg, hR⟩ := hR
      refine x_if_eq (pc := 87) (tgt := 97) (show decode mX8_pins.2.1 87 = .ok (.ifCond .eq 10, 3) by decide +kernel) (by decide) hg (fun hc => ?_) (fun hc => ?_)
      · replace hR := hR.1 hc
        refine x_lconst (pc := 97) (v := 0) (show decode mX8_pins.2.1 97 = .ok (.lconst 0, 1) by decide +kernel) rfl ?_
        refine x_lor (pc := 98) (show decode mX8_pins.2.1 98 = .ok (.lor, 1) by decide +kernel) ?_
        refine x_lstore_n (pc := 99) (ls' := [some (.inr (.inr 0)), some (.inl x1), some (.inr (.inl (xorL x2 0))), none, some (.inl x4), some (.inl r4)]) (show decode mX8_pins.2.1 99 = .ok (.lstore_n 2, 1) by decide +kernel) rfl (by decide) rfl ?_
        refine x_iinc (pc := 100) (ls' := [some (.inr (.inr 0)), some (.inl x1), some (.inr (.inl (xorL x2 0))), none, some (.inl (x4 + 1)), some (.inl r4)]) (show decode mX8_pins.2.1 100 = .ok (.iinc 4 1, 3) by decide +kernel) (by decide) rfl rfl ?_
        refine x_goto (pc := 103) (tgt := 25) (show decode mX8_pins.2.1 103 = .ok (.goto (-78), 3) by decide +kernel) (by decide) ?_
        exact x_weak (xle_get (by repeat' constructor)) hR
      · replace hR := hR.2 hc
        refine x_lconst (pc := 90) (v := 1) (show decode mX8_pins.2.1 90 = .ok (.lconst 1, 1) by decide +kernel) rfl ?_
        refine x_iload (pc := 91) (show decode mX8_pins.2.1 91 = .ok (.iload 4, 2) by decide +kernel) rfl ?_
        obtain ⟨hg, hR⟩ := hR
        refine x_lshl (pc := 93) (show decode mX8_pins.2.1 93 = .ok (.lshl, 1) by decide +kernel) hg ?_
        refine x_goto (pc := 94) (tgt := 98) (show decode mX8_pins.2.1 94 = .ok (.goto 4, 3) by decide +kernel) (by decide) ?_
        refine x_lor (pc := 98) (show decode mX8_pins.2.1 98 = .ok (.lor, 1) by decide +kernel) ?_
        refine x_lstore_n (pc := 99) (ls' := [some (.inr (.inr 0)), some (.inl x1), some (.inr (.inl (xorL x2 (1 * 2 ^ (Int.toNat x4))))), none, some (.inl x4), some (.inl r4)]) (show decode mX8_pins.2.1 99 = .ok (.lstore_n 2, 1) by decide +kernel) rfl (by decide) rfl ?_
        refine x_iinc (pc := 100) (ls' := [some (.inr (.inr 0)), some (.inl x1), some (.inr (.inl (xorL x2 (1 * 2 ^ (Int.toNat x4))))), none, some (.inl (x4 + 1)), some (.inl r4)]) (show decode mX8_pins.2.1 100 = .ok (.iinc 4 1, 3) by decide +kernel) (by decide) rfl rfl ?_
        refine x_goto (pc := 103) (tgt := 25) (show decode mX8_pins.2.1 103 = .ok (.goto (-78), 3) by decide +kernel) (by decide) ?_
        exact x_weak (xle_get (by repeat' constructor)) hR
set_option maxRecDepth 4000 in
theorem sg_X8_deepest_0 {d : Nat} {h : xH} {Q : Int → xH → Prop} (hd : 1 ≤ d)
    (hR : cV wdM (d - 1) mX8_findsAll [.inr (.inr 0)] h (fun h1 => gI wdM d mX8_deepest 9 [some (.inr (.inr 0)), some (.inl (-5)), some (.inl 0)] h1 Q)) :
    gI wdM d mX8_deepest 0 [some (.inr (.inr 0)), none, none] h Q := by
  unfold gI
  refine x_aload_n (pc := 0) (show decode mX8_deepest.2.1 0 = .ok (.aload_n 0, 1) by decide +kernel) rfl rfl ?_
  refine x_callV (pc := 1) (As := []) (rest := []) (lk8_136 rfl) im_X8_findsAll sl_X8_findsAll rfl rfl rfl (Nat.le_of_ble_eq_true rfl) (Nat.le_of_ble_eq_true rfl) (show decode mX8_deepest.2.1 1 = .ok (.invokevirtual 136, 3) by decide +kernel) hd hR (fun r9 h1 hq => ?_)
  obtain ⟨rfl, hR⟩ := hq
  show xG _ _ _ 4 _ [] _ _
  refine x_bipush (pc := 4) (n := (-5)) (show decode mX8_deepest.2.1 4 = .ok (.bipush (-5), 2) by decide +kernel) rfl ?_
  refine x_istore_n (pc := 6) (ls' := [some (.inr (.inr 0)), some (.inl (-5)), none]) (show decode mX8_deepest.2.1 6 = .ok (.istore_n 1, 1) by decide +kernel) rfl (by decide) rfl ?_
  refine x_iconst (pc := 7) (n := 0) (show decode mX8_deepest.2.1 7 = .ok (.iconst 0, 1) by decide +kernel) ?_
  refine x_istore_n (pc := 8) (ls' := [some (.inr (.inr 0)), some (.inl (-5)), some (.inl 0)]) (show decode mX8_deepest.2.1 8 = .ok (.istore_n 2, 1) by decide +kernel) rfl (by decide) rfl ?_
  exact hR
set_option maxRecDepth 4000 in
theorem sg_X8_deepest_9 {d : Nat} {x1 x2 : Int} {h : xH} {Q : Int → xH → Prop} (hd : 1 ≤ d)
    (hR : (inI x2 ∧ inI (h 1 1)) ∧ ((h 1 1) ≤ x2 → Q x1 h) ∧ (x2 < (h 1 1) → (0 ≤ x2 ∧ x2 < 30) ∧ (inI x1 ∧ inI (h 7 x2)) ∧ gI wdM d mX8_deepest 9 [some (.inr (.inr 0)), some (.inl (max x1 (h 7 x2))), some (.inl (x2 + 1))] h Q)) :
    gI wdM d mX8_deepest 9 [some (.inr (.inr 0)), some (.inl x1), some (.inl x2)] h Q := by
  unfold gI
  refine x_iload_n (pc := 9) (show decode mX8_deepest.2.1 9 = .ok (.iload_n 2, 1) by decide +kernel) rfl rfl ?_
  refine x_aload_n (pc := 10) (show decode mX8_deepest.2.1 10 = .ok (.aload_n 0, 1) by decide +kernel) rfl rfl ?_
  refine x_getR (pc := 11) f8_11 rfl rfl (show decode mX8_deepest.2.1 11 = .ok (.getfield 11, 3) by decide +kernel) ?_
  refine x_iconst (pc := 14) (n := 1) (show decode mX8_deepest.2.1 14 = .ok (.iconst 1, 1) by decide +kernel) ?_
  refine x_iald (pc := 15) rfl (by decide) (by decide) (show decode mX8_deepest.2.1 15 = .ok (.iaload, 1) by decide +kernel) ?_
  obtain ⟨hg, hR⟩ := hR
  refine x_icmp_ge (pc := 16) (tgt := 36) (show decode mX8_deepest.2.1 16 = .ok (.if_icmp .ge 20, 3) by decide +kernel) (by decide) ⟨hg.1, hg.2⟩ (fun hc => ?_) (fun hc => ?_)
  · replace hR := hR.1 hc
    refine x_iload_n (pc := 36) (show decode mX8_deepest.2.1 36 = .ok (.iload_n 1, 1) by decide +kernel) rfl rfl ?_
    exact x_iret (pc := 37) rfl (show decode mX8_deepest.2.1 37 = .ok (.ireturn, 1) by decide +kernel) ⟨_, rfl, hR⟩
  · replace hR := hR.2 hc
    refine x_iload_n (pc := 19) (show decode mX8_deepest.2.1 19 = .ok (.iload_n 1, 1) by decide +kernel) rfl rfl ?_
    refine x_aload_n (pc := 20) (show decode mX8_deepest.2.1 20 = .ok (.aload_n 0, 1) by decide +kernel) rfl rfl ?_
    refine x_getR (pc := 21) f8_31 rfl rfl (show decode mX8_deepest.2.1 21 = .ok (.getfield 31, 3) by decide +kernel) ?_
    refine x_iload_n (pc := 24) (show decode mX8_deepest.2.1 24 = .ok (.iload_n 2, 1) by decide +kernel) rfl rfl ?_
    obtain ⟨hg, hR⟩ := hR
    refine x_iald (pc := 25) rfl (by decide) hg (show decode mX8_deepest.2.1 25 = .ok (.iaload, 1) by decide +kernel) ?_
    obtain ⟨hg, hR⟩ := hR
    refine x_mmax (pc := 26) (tblG_m5 175 rfl rfl) MX_st M_in MX_cd ⟨hg.1, hg.2⟩ (Nat.le_of_ble_eq_true rfl) hd (show decode mX8_deepest.2.1 26 = .ok (.invokestatic 119, 3) by decide +kernel) ?_
    refine x_istore_n (pc := 29) (ls' := [some (.inr (.inr 0)), some (.inl (max x1 (h 7 x2))), some (.inl x2)]) (show decode mX8_deepest.2.1 29 = .ok (.istore_n 1, 1) by decide +kernel) rfl (by decide) rfl ?_
    refine x_iinc (pc := 30) (ls' := [some (.inr (.inr 0)), some (.inl (max x1 (h 7 x2))), some (.inl (x2 + 1))]) (show decode mX8_deepest.2.1 30 = .ok (.iinc 2 1, 3) by decide +kernel) (by decide) rfl rfl ?_
    refine x_goto (pc := 33) (tgt := 9) (show decode mX8_deepest.2.1 33 = .ok (.goto (-24), 3) by decide +kernel) (by decide) ?_
    exact hR
set_option maxRecDepth 4000 in
theorem sg_X8_goes_0 {d : Nat} {x1 x2 x3 : Int} {h : xH} {Q : xH → Prop}
    (hR : (0 ≤ (157 + x1) ∧ (157 + x1) < 1705) ∧ (inI x3) ∧ (x3 = 0 → (0 ≤ (157 + x2) ∧ (157 + x2) < 1705) ∧ (0 ≤ (157 + x1) ∧ (157 + x1) < 1705) ∧ (0 ≤ (157 + x2) ∧ (157 + x2) < 1705) ∧ Q (xu (xu h 1 (157 + x1) (h 1 (157 + x2))) 1 (157 + x2) (h 1 (157 + x1)))) ∧ (¬ x3 = 0 → (0 ≤ (181 + (h 1 (157 + x1))) ∧ (181 + (h 1 (157 + x1))) < 1705) ∧ (0 ≤ (181 + (h 1 (157 + x1))) ∧ (181 + (h 1 (157 + x1))) < 1705) ∧ (0 ≤ (157 + x2) ∧ (157 + x2) < 1705) ∧ (0 ≤ (157 + x1) ∧ (157 + x1) < 1705) ∧ (0 ≤ (157 + x2) ∧ (157 + x2) < 1705) ∧ Q (xu (xu (xu h 1 (181 + (h 1 (157 + x1))) ((h 1 (181 + (h 1 (157 + x1)))) + 1)) 1 (157 + x1) ((xu h 1 (181 + (h 1 (157 + x1))) ((h 1 (181 + (h 1 (157 + x1)))) + 1)) 1 (157 + x2))) 1 (157 + x2) (h 1 (157 + x1))))) :
    gV wdM d mX8_goes 0 [some (.inr (.inr 0)), some (.inl x1), some (.inl x2), some (.inl x3), none] h Q := by
  unfold gV
  refine x_aload_n (pc := 0) (show decode mX8_goes.2.1 0 = .ok (.aload_n 0, 1) by decide +kernel) rfl rfl ?_
  refine x_getR (pc := 1) f8_11 rfl rfl (show decode mX8_goes.2.1 1 = .ok (.getfield 11, 3) by decide +kernel) ?_
  refine x_sipush (pc := 4) (n := 157) (show decode mX8_goes.2.1 4 = .ok (.sipush 157, 3) by decide +kernel) rfl ?_
  refine x_iload_n (pc := 7) (show decode mX8_goes.2.1 7 = .ok (.iload_n 1, 1) by decide +kernel) rfl rfl ?_
  refine x_iadd (pc := 8) (show decode mX8_goes.2.1 8 = .ok (.iadd, 1) by decide +kernel) ?_
  obtain ⟨hg, hR⟩ := hR
  refine x_iald (pc := 9) rfl (by decide) hg (show decode mX8_goes.2.1 9 = .ok (.iaload, 1) by decide +kernel) ?_
  refine x_istore (pc := 10) (ls' := [some (.inr (.inr 0)), some (.inl x1), some (.inl x2), some (.inl x3), some (.inl (h 1 (157 + x1)))]) (show decode mX8_goes.2.1 10 = .ok (.istore 4, 2) by decide +kernel) (by decide) rfl ?_
  refine x_iload_n (pc := 12) (show decode mX8_goes.2.1 12 = .ok (.iload_n 3, 1) by decide +kernel) rfl rfl ?_
  obtain ⟨hg, hR⟩ := hR
  refine x_if_eq (pc := 13) (tgt := 31) (show decode mX8_goes.2.1 13 = .ok (.ifCond .eq 18, 3) by decide +kernel) (by decide) hg (fun hc => ?_) (fun hc => ?_)
  · replace hR := hR.1 hc
    refine x_aload_n (pc := 31) (show decode mX8_goes.2.1 31 = .ok (.aload_n 0, 1) by decide +kernel) rfl rfl ?_
    refine x_getR (pc := 32) f8_11 rfl rfl (show decode mX8_goes.2.1 32 = .ok (.getfield 11, 3) by decide +kernel) ?_
    refine x_sipush (pc := 35) (n := 157) (show decode mX8_goes.2.1 35 = .ok (.sipush 157, 3) by decide +kernel) rfl ?_
    refine x_iload_n (pc := 38) (show decode mX8_goes.2.1 38 = .ok (.iload_n 1, 1) by decide +kernel) rfl rfl ?_
    refine x_iadd (pc := 39) (show decode mX8_goes.2.1 39 = .ok (.iadd, 1) by decide +kernel) ?_
    refine x_aload_n (pc := 40) (show decode mX8_goes.2.1 40 = .ok (.aload_n 0, 1) by decide +kernel) rfl rfl ?_
    refine x_getR (pc := 41) f8_11 rfl rfl (show decode mX8_goes.2.1 41 = .ok (.getfield 11, 3) by decide +kernel) ?_
    refine x_sipush (pc := 44) (n := 157) (show decode mX8_goes.2.1 44 = .ok (.sipush 157, 3) by decide +kernel) rfl ?_
    refine x_iload_n (pc := 47) (show decode mX8_goes.2.1 47 = .ok (.iload_n 2, 1) by decide +kernel) rfl rfl ?_
    refine x_iadd (pc := 48) (show decode mX8_goes.2.1 48 = .ok (.iadd, 1) by decide +kernel) ?_
    obtain ⟨hg, hR⟩ := hR
    refine x_iald (pc := 49) rfl (by decide) hg (show decode mX8_goes.2.1 49 = .ok (.iaload, 1) by decide +kernel) ?_
    obtain ⟨hg, hR⟩ := hR
    refine x_iast (pc := 50) rfl (by decide) hg (show decode mX8_goes.2.1 50 = .ok (.iastore, 1) by decide +kernel) ?_
    refine x_aload_n (pc := 51) (show decode mX8_goes.2.1 51 = .ok (.aload_n 0, 1) by decide +kernel) rfl rfl ?_
    refine x_getR (pc := 52) f8_11 rfl rfl (show decode mX8_goes.2.1 52 = .ok (.getfield 11, 3) by decide +kernel) ?_
    refine x_sipush (pc := 55) (n := 157) (show decode mX8_goes.2.1 55 = .ok (.sipush 157, 3) by decide +kernel) rfl ?_
    refine x_iload_n (pc := 58) (show decode mX8_goes.2.1 58 = .ok (.iload_n 2, 1) by decide +kernel) rfl rfl ?_
    refine x_iadd (pc := 59) (show decode mX8_goes.2.1 59 = .ok (.iadd, 1) by decide +kernel) ?_
    refine x_iload (pc := 60) (show decode mX8_goes.2.1 60 = .ok (.iload 4, 2) by decide +kernel) rfl ?_
    obtain ⟨hg, hR⟩ := hR
    refine x_iast (pc := 62) rfl (by decide) hg (show decode mX8_goes.2.1 62 = .ok (.iastore, 1) by decide +kernel) ?_
    exact x_vret (pc := 63) rfl (show decode mX8_goes.2.1 63 = .ok (.return_, 1) by decide +kernel) ⟨rfl, hR⟩
  · replace hR := hR.2 hc
    refine x_aload_n (pc := 16) (show decode mX8_goes.2.1 16 = .ok (.aload_n 0, 1) by decide +kernel) rfl rfl ?_
    refine x_getR (pc := 17) f8_11 rfl rfl (show decode mX8_goes.2.1 17 = .ok (.getfield 11, 3) by decide +kernel) ?_
    refine x_sipush (pc := 20) (n := 181) (show decode mX8_goes.2.1 20 = .ok (.sipush 181, 3) by decide +kernel) rfl ?_
    refine x_iload (pc := 23) (show decode mX8_goes.2.1 23 = .ok (.iload 4, 2) by decide +kernel) rfl ?_
    refine x_iadd (pc := 25) (show decode mX8_goes.2.1 25 = .ok (.iadd, 1) by decide +kernel) ?_
    refine x_dup2 (pc := 26) (show decode mX8_goes.2.1 26 = .ok (.dup2, 1) by decide +kernel) rfl rfl ?_
    obtain ⟨hg, hR⟩ := hR
    refine x_iald (pc := 27) rfl (by decide) hg (show decode mX8_goes.2.1 27 = .ok (.iaload, 1) by decide +kernel) ?_
    refine x_iconst (pc := 28) (n := 1) (show decode mX8_goes.2.1 28 = .ok (.iconst 1, 1) by decide +kernel) ?_
    refine x_iadd (pc := 29) (show decode mX8_goes.2.1 29 = .ok (.iadd, 1) by decide +kernel) ?_
    obtain ⟨hg, hR⟩ := hR
    refine x_iast (pc := 30) rfl (by decide) hg (show decode mX8_goes.2.1 30 = .ok (.iastore, 1) by decide +kernel) ?_
    refine x_aload_n (pc := 31) (show decode mX8_goes.2.1 31 = .ok (.aload_n 0, 1) by decide +kernel) rfl rfl ?_
    refine x_getR (pc := 32) f8_11 rfl rfl (show decode mX8_goes.2.1 32 = .ok (.getfield 11, 3) by decide +kernel) ?_
    refine x_sipush (pc := 35) (n := 157) (show decode mX8_goes.2.1 35 = .ok (.sipush 157, 3) by decide +kernel) rfl ?_
    refine x_iload_n (pc := 38) (show decode mX8_goes.2.1 38 = .ok (.iload_n 1, 1) by decide +kernel) rfl rfl ?_
    refine x_iadd (pc := 39) (show decode mX8_goes.2.1 39 = .ok (.iadd, 1) by decide +kernel) ?_
    refine x_aload_n (pc := 40) (show decode mX8_goes.2.1 40 = .ok (.aload_n 0, 1) by decide +kernel) rfl rfl ?_
    refine x_getR (pc := 41) f8_11 rfl rfl (show decode mX8_goes.2.1 41 = .ok (.getfield 11, 3) by decide +kernel) ?_
    refine x_sipush (pc := 44) (n := 157) (show decode mX8_goes.2.1 44 = .ok (.sipush 157, 3) by decide +kernel) rfl ?_
    refine x_iload_n (pc := 47) (show decode mX8_goes.2.1 47 = .ok (.iload_n 2, 1) by decide +kernel) rfl rfl ?_
    refine x_iadd (pc := 48) (show decode mX8_goes.2.1 48 = .ok (.iadd, 1) by decide +kernel) ?_
    obtain ⟨hg, hR⟩ := hR
    refine x_iald (pc := 49) rfl (by decide) hg (show decode mX8_goes.2.1 49 = .ok (.iaload, 1) by decide +kernel) ?_
    obtain ⟨hg, hR⟩ := hR
    refine x_iast (pc := 50) rfl (by decide) hg (show decode mX8_goes.2.1 50 = .ok (.iastore, 1) by decide +kernel) ?_
    refine x_aload_n (pc := 51) (show decode mX8_goes.2.1 51 = .ok (.aload_n 0, 1) by decide +kernel) rfl rfl ?_
    refine x_getR (pc := 52) f8_11 rfl rfl (show decode mX8_goes.2.1 52 = .ok (.getfield 11, 3) by decide +kernel) ?_
    refine x_sipush (pc := 55) (n := 157) (show decode mX8_goes.2.1 55 = .ok (.sipush 157, 3) by decide +kernel) rfl ?_
    refine x_iload_n (pc := 58) (show decode mX8_goes.2.1 58 = .ok (.iload_n 2, 1) by decide +kernel) rfl rfl ?_
    refine x_iadd (pc := 59) (show decode mX8_goes.2.1 59 = .ok (.iadd, 1) by decide +kernel) ?_
    refine x_iload (pc := 60) (show decode mX8_goes.2.1 60 = .ok (.iload 4, 2) by decide +kernel) rfl ?_
    obtain ⟨hg, hR⟩ := hR
    refine x_iast (pc := 62) rfl (by decide) hg (show decode mX8_goes.2.1 62 = .ok (.iastore, 1) by decide +kernel) ?_
    exact x_vret (pc := 63) rfl (show decode mX8_goes.2.1 63 = .ok (.return_, 1) by decide +kernel) ⟨rfl, hR⟩
set_option maxRecDepth 4000 in
theorem sg_X8_crosses_0 {d : Nat} {x1 x2 : Int} {h : xH} {Q : xH → Prop} (hd : 1 ≤ d)
    (hR : cV wdM (d - 1) mX8_goes [.inr (.inr 0), .inl ((2 * x1) + 1), .inl ((2 * x1) + 2), .inl x2] h (fun h1 => Q h1)) :
    gV wdM d mX8_crosses 0 [some (.inr (.inr 0)), some (.inl x1), some (.inl x2)] h Q := by
  unfold gV
  refine x_aload_n (pc := 0) (show decode mX8_crosses.2.1 0 = .ok (.aload_n 0, 1) by decide +kernel) rfl rfl ?_
  refine x_iconst (pc := 1) (n := 2) (show decode mX8_crosses.2.1 1 = .ok (.iconst 2, 1) by decide +kernel) ?_
  refine x_iload_n (pc := 2) (show decode mX8_crosses.2.1 2 = .ok (.iload_n 1, 1) by decide +kernel) rfl rfl ?_
  refine x_imul (pc := 3) (show decode mX8_crosses.2.1 3 = .ok (.imul, 1) by decide +kernel) ?_
  refine x_iconst (pc := 4) (n := 1) (show decode mX8_crosses.2.1 4 = .ok (.iconst 1, 1) by decide +kernel) ?_
  refine x_iadd (pc := 5) (show decode mX8_crosses.2.1 5 = .ok (.iadd, 1) by decide +kernel) ?_
  refine x_iconst (pc := 6) (n := 2) (show decode mX8_crosses.2.1 6 = .ok (.iconst 2, 1) by decide +kernel) ?_
  refine x_iload_n (pc := 7) (show decode mX8_crosses.2.1 7 = .ok (.iload_n 1, 1) by decide +kernel) rfl rfl ?_
  refine x_imul (pc := 8) (show decode mX8_crosses.2.1 8 = .ok (.imul, 1) by decide +kernel) ?_
  refine x_iconst (pc := 9) (n := 2) (show decode mX8_crosses.2.1 9 = .ok (.iconst 2, 1) by decide +kernel) ?_
  refine x_iadd (pc := 10) (show decode mX8_crosses.2.1 10 = .ok (.iadd, 1) by decide +kernel) ?_
  refine x_iload_n (pc := 11) (show decode mX8_crosses.2.1 11 = .ok (.iload_n 2, 1) by decide +kernel) rfl rfl ?_
  refine x_callV (pc := 12) (As := [.inl ((2 * x1) + 1), .inl ((2 * x1) + 2), .inl x2]) (rest := []) (lk8_144 rfl) im_X8_goes sl_X8_goes rfl rfl rfl (Nat.le_of_ble_eq_true rfl) (Nat.le_of_ble_eq_true rfl) (show decode mX8_crosses.2.1 12 = .ok (.invokevirtual 144, 3) by decide +kernel) hd hR (fun r9 h1 hq => ?_)
  obtain ⟨rfl, hR⟩ := hq
  show xG _ _ _ 15 _ [] _ _
  exact x_vret (pc := 15) rfl (show decode mX8_crosses.2.1 15 = .ok (.return_, 1) by decide +kernel) ⟨rfl, hR⟩
set_option maxRecDepth 4000 in
theorem sg_X8_twists_0 {d : Nat} {x1 x2 : Int} {h : xH} {Q : xH → Prop} (hd : 1 ≤ d)
    (hR : cV wdM (d - 1) mX8_goes [.inr (.inr 0), .inl ((2 * x1) + 1), .inl (2 * x1), .inl x2] h (fun h1 => cV wdM (d - 1) mX8_goes [.inr (.inr 0), .inl ((2 * x1) + 3), .inl ((2 * x1) + 2), .inl x2] h1 (fun h2 => Q h2))) :
    gV wdM d mX8_twists 0 [some (.inr (.inr 0)), some (.inl x1), some (.inl x2)] h Q := by
  unfold gV
  refine x_aload_n (pc := 0) (show decode mX8_twists.2.1 0 = .ok (.aload_n 0, 1) by decide +kernel) rfl rfl ?_
  refine x_iconst (pc := 1) (n := 2) (show decode mX8_twists.2.1 1 = .ok (.iconst 2, 1) by decide +kernel) ?_
  refine x_iload_n (pc := 2) (show decode mX8_twists.2.1 2 = .ok (.iload_n 1, 1) by decide +kernel) rfl rfl ?_
  refine x_imul (pc := 3) (show decode mX8_twists.2.1 3 = .ok (.imul, 1) by decide +kernel) ?_
  refine x_iconst (pc := 4) (n := 1) (show decode mX8_twists.2.1 4 = .ok (.iconst 1, 1) by decide +kernel) ?_
  refine x_iadd (pc := 5) (show decode mX8_twists.2.1 5 = .ok (.iadd, 1) by decide +kernel) ?_
  refine x_iconst (pc := 6) (n := 2) (show decode mX8_twists.2.1 6 = .ok (.iconst 2, 1) by decide +kernel) ?_
  refine x_iload_n (pc := 7) (show decode mX8_twists.2.1 7 = .ok (.iload_n 1, 1) by decide +kernel) rfl rfl ?_
  refine x_imul (pc := 8) (show decode mX8_twists.2.1 8 = .ok (.imul, 1) by decide +kernel) ?_
  refine x_iload_n (pc := 9) (show decode mX8_twists.2.1 9 = .ok (.iload_n 2, 1) by decide +kernel) rfl rfl ?_
  refine x_callV (pc := 10) (As := [.inl ((2 * x1) + 1), .inl (2 * x1), .inl x2]) (rest := []) (lk8_144 rfl) im_X8_goes sl_X8_goes rfl rfl rfl (Nat.le_of_ble_eq_true rfl) (Nat.le_of_ble_eq_true rfl) (show decode mX8_twists.2.1 10 = .ok (.invokevirtual 144, 3) by decide +kernel) hd hR (fun r9 h1 hq => ?_)
  obtain ⟨rfl, hR⟩ := hq
  show xG _ _ _ 13 _ [] _ _
  refine x_aload_n (pc := 13) (show decode mX8_twists.2.1 13 = .ok (.aload_n 0, 1) by decide +kernel) rfl rfl ?_
  refine x_iconst (pc := 14) (n := 2) (show decode mX8_twists.2.1 14 = .ok (.iconst 2, 1) by decide +kernel) ?_
  refine x_iload_n (pc := 15) (show decode mX8_twists.2.1 15 = .ok (.iload_n 1, 1) by decide +kernel) rfl rfl ?_
  refine x_imul (pc := 16) (show decode mX8_twists.2.1 16 = .ok (.imul, 1) by decide +kernel) ?_
  refine x_iconst (pc := 17) (n := 3) (show decode mX8_twists.2.1 17 = .ok (.iconst 3, 1) by decide +kernel) ?_
  refine x_iadd (pc := 18) (show decode mX8_twists.2.1 18 = .ok (.iadd, 1) by decide +kernel) ?_
  refine x_iconst (pc := 19) (n := 2) (show decode mX8_twists.2.1 19 = .ok (.iconst 2, 1) by decide +kernel) ?_
  refine x_iload_n (pc := 20) (show decode mX8_twists.2.1 20 = .ok (.iload_n 1, 1) by decide +kernel) rfl rfl ?_
  refine x_imul (pc := 21) (show decode mX8_twists.2.1 21 = .ok (.imul, 1) by decide +kernel) ?_
  refine x_iconst (pc := 22) (n := 2) (show decode mX8_twists.2.1 22 = .ok (.iconst 2, 1) by decide +kernel) ?_
  refine x_iadd (pc := 23) (show decode mX8_twists.2.1 23 = .ok (.iadd, 1) by decide +kernel) ?_
  refine x_iload_n (pc := 24) (show decode mX8_twists.2.1 24 = .ok (.iload_n 2, 1) by decide +kernel) rfl rfl ?_
  refine x_callV (pc := 25) (As := [.inl ((2 * x1) + 3), .inl ((2 * x1) + 2), .inl x2]) (rest := []) (lk8_144 rfl) im_X8_goes sl_X8_goes rfl rfl rfl (Nat.le_of_ble_eq_true rfl) (Nat.le_of_ble_eq_true rfl) (show decode mX8_twists.2.1 25 = .ok (.invokevirtual 144, 3) by decide +kernel) hd hR (fun r9 h2 hq => ?_)
  obtain ⟨rfl, hR⟩ := hq
  show xG _ _ _ 28 _ [] _ _
  exact x_vret (pc := 28) rfl (show decode mX8_twists.2.1 28 = .ok (.return_, 1) by decide +kernel) ⟨rfl, hR⟩
set_option maxRecDepth 4000 in
theorem sg_X8_stitches_0 {d : Nat} {x1 x2 x3 : Int} {h : xH} {Q : xH → Prop} (hd : 1 ≤ d)
    (hR : (inI x2) ∧ (x2 = 1 → (inI x2) ∧ (x2 ≤ 0 → (inI x2) ∧ (x2 ≤ 2 → (inI x2) ∧ (¬ x2 = 4 → Q h) ∧ (x2 = 4 → cV wdM (d - 1) mX8_twists [.inr (.inr 0), .inl x1, .inl x3] h (fun h1 => Q h1))) ∧ (2 < x2 → cV wdM (d - 1) mX8_crosses [.inr (.inr 0), .inl x1, .inl x3] h (fun h2 => (inI x2) ∧ (¬ x2 = 4 → Q h2) ∧ (x2 = 4 → cV wdM (d - 1) mX8_twists [.inr (.inr 0), .inl x1, .inl x3] h2 (fun h3 => Q h3))))) ∧ (0 < x2 → cV wdM (d - 1) mX8_twists [.inr (.inr 0), .inl x1, .inl x3] h (fun h4 => (inI x2) ∧ (x2 ≤ 2 → (inI x2) ∧ (¬ x2 = 4 → Q h4) ∧ (x2 = 4 → cV wdM (d - 1) mX8_twists [.inr (.inr 0), .inl x1, .inl x3] h4 (fun h5 => Q h5))) ∧ (2 < x2 → cV wdM (d - 1) mX8_crosses [.inr (.inr 0), .inl x1, .inl x3] h4 (fun h6 => (inI x2) ∧ (¬ x2 = 4 → Q h6) ∧ (x2 = 4 → cV wdM (d - 1) mX8_twists [.inr (.inr 0), .inl x1, .inl x3] h6 (fun h7 => Q h7))))))) ∧ (¬ x2 = 1 → cV wdM (d - 1) mX8_crosses [.inr (.inr 0), .inl x1, .inl x3] h (fun h8 => (inI x2) ∧ (x2 ≤ 0 → (inI x2) ∧ (x2 ≤ 2 → (inI x2) ∧ (¬ x2 = 4 → Q h8) ∧ (x2 = 4 → cV wdM (d - 1) mX8_twists [.inr (.inr 0), .inl x1, .inl x3] h8 (fun h9 => Q h9))) ∧ (2 < x2 → cV wdM (d - 1) mX8_crosses [.inr (.inr 0), .inl x1, .inl x3] h8 (fun h10 => (inI x2) ∧ (¬ x2 = 4 → Q h10) ∧ (x2 = 4 → cV wdM (d - 1) mX8_twists [.inr (.inr 0), .inl x1, .inl x3] h10 (fun h11 => Q h11))))) ∧ (0 < x2 → cV wdM (d - 1) mX8_twists [.inr (.inr 0), .inl x1, .inl x3] h8 (fun h12 => (inI x2) ∧ (x2 ≤ 2 → (inI x2) ∧ (¬ x2 = 4 → Q h12) ∧ (x2 = 4 → cV wdM (d - 1) mX8_twists [.inr (.inr 0), .inl x1, .inl x3] h12 (fun h13 => Q h13))) ∧ (2 < x2 → cV wdM (d - 1) mX8_crosses [.inr (.inr 0), .inl x1, .inl x3] h12 (fun h14 => (inI x2) ∧ (¬ x2 = 4 → Q h14) ∧ (x2 = 4 → cV wdM (d - 1) mX8_twists [.inr (.inr 0), .inl x1, .inl x3] h14 (fun h15 => Q h15))))))))) :
    gV wdM d mX8_stitches 0 [some (.inr (.inr 0)), some (.inl x1), some (.inl x2), some (.inl x3)] h Q := by
  unfold gV
  refine x_iload_n (pc := 0) (show decode mX8_stitches.2.1 0 = .ok (.iload_n 2, 1) by decide +kernel) rfl rfl ?_
  refine x_iconst (pc := 1) (n := 1) (show decode mX8_stitches.2.1 1 = .ok (.iconst 1, 1) by decide +kernel) ?_
  obtain ⟨hg, hR⟩ := hR
  refine x_icmp_eq (pc := 2) (tgt := 11) (show decode mX8_stitches.2.1 2 = .ok (.if_icmp .eq 9, 3) by decide +kernel) (by decide) ⟨hg, (by unfold inI; decide)⟩ (fun hc => ?_) (fun hc => ?_)
  · replace hR := hR.1 hc
    refine x_iload_n (pc := 11) (show decode mX8_stitches.2.1 11 = .ok (.iload_n 2, 1) by decide +kernel) rfl rfl ?_
    obtain ⟨hg, hR⟩ := hR
    refine x_if_le (pc := 12) (tgt := 21) (show decode mX8_stitches.2.1 12 = .ok (.ifCond .le 9, 3) by decide +kernel) (by decide) hg (fun hc => ?_) (fun hc => ?_)
    · replace hR := hR.1 hc
      refine x_iload_n (pc := 21) (show decode mX8_stitches.2.1 21 = .ok (.iload_n 2, 1) by decide +kernel) rfl rfl ?_
      refine x_iconst (pc := 22) (n := 2) (show decode mX8_stitches.2.1 22 = .ok (.iconst 2, 1) by decide +kernel) ?_
      obtain ⟨hg, hR⟩ := hR
      refine x_icmp_le (pc := 23) (tgt := 32) (show decode mX8_stitches.2.1 23 = .ok (.if_icmp .le 9, 3) by decide +kernel) (by decide) ⟨hg, (by unfold inI; decide)⟩ (fun hc => ?_) (fun hc => ?_)
      · replace hR := hR.1 hc
        refine x_iload_n (pc := 32) (show decode mX8_stitches.2.1 32 = .ok (.iload_n 2, 1) by decide +kernel) rfl rfl ?_
        refine x_iconst (pc := 33) (n := 4) (show decode mX8_stitches.2.1 33 = .ok (.iconst 4, 1) by decide +kernel) ?_
        obtain ⟨hg, hR⟩ := hR
        refine x_icmp_ne (pc := 34) (tgt := 43) (show decode mX8_stitches.2.1 34 = .ok (.if_icmp .ne 9, 3) by decide +kernel) (by decide) ⟨hg, (by unfold inI; decide)⟩ (fun hc => ?_) (fun hc => ?_)
        · replace hR := hR.1 hc
          exact x_vret (pc := 43) rfl (show decode mX8_stitches.2.1 43 = .ok (.return_, 1) by decide +kernel) ⟨rfl, hR⟩
        · replace hR := hR.2 hc
          refine x_aload_n (pc := 37) (show decode mX8_stitches.2.1 37 = .ok (.aload_n 0, 1) by decide +kernel) rfl rfl ?_
          refine x_iload_n (pc := 38) (show decode mX8_stitches.2.1 38 = .ok (.iload_n 1, 1) by decide +kernel) rfl rfl ?_
          refine x_iload_n (pc := 39) (show decode mX8_stitches.2.1 39 = .ok (.iload_n 3, 1) by decide +kernel) rfl rfl ?_
          refine x_callV (pc := 40) (As := [.inl x1, .inl x3]) (rest := []) (lk8_152 rfl) im_X8_twists sl_X8_twists rfl rfl rfl (Nat.le_of_ble_eq_true rfl) (Nat.le_of_ble_eq_true rfl) (show decode mX8_stitches.2.1 40 = .ok (.invokevirtual 152, 3) by decide +kernel) hd hR (fun r9 h1 hq => ?_)
          obtain ⟨rfl, hR⟩ := hq
          show xG _ _ _ 43 _ [] _ _
          exact x_vret (pc := 43) rfl (show decode mX8_stitches.2.1 43 = .ok (.return_, 1) by decide +kernel) ⟨rfl, hR⟩
      · replace hR := hR.2 hc
        refine x_aload_n (pc := 26) (show decode mX8_stitches.2.1 26 = .ok (.aload_n 0, 1) by decide +kernel) rfl rfl ?_
        refine x_iload_n (pc := 27) (show decode mX8_stitches.2.1 27 = .ok (.iload_n 1, 1) by decide +kernel) rfl rfl ?_
        refine x_iload_n (pc := 28) (show decode mX8_stitches.2.1 28 = .ok (.iload_n 3, 1) by decide +kernel) rfl rfl ?_
        refine x_callV (pc := 29) (As := [.inl x1, .inl x3]) (rest := []) (lk8_148 rfl) im_X8_crosses sl_X8_crosses rfl rfl rfl (Nat.le_of_ble_eq_true rfl) (Nat.le_of_ble_eq_true rfl) (show decode mX8_stitches.2.1 29 = .ok (.invokevirtual 148, 3) by decide +kernel) hd hR (fun r9 h2 hq => ?_)
        obtain ⟨rfl, hR⟩ := hq
        show xG _ _ _ 32 _ [] _ _
        refine x_iload_n (pc := 32) (show decode mX8_stitches.2.1 32 = .ok (.iload_n 2, 1) by decide +kernel) rfl rfl ?_
        refine x_iconst (pc := 33) (n := 4) (show decode mX8_stitches.2.1 33 = .ok (.iconst 4, 1) by decide +kernel) ?_
        obtain ⟨hg, hR⟩ := hR
        refine x_icmp_ne (pc := 34) (tgt := 43) (show decode mX8_stitches.2.1 34 = .ok (.if_icmp .ne 9, 3) by decide +kernel) (by decide) ⟨hg, (by unfold inI; decide)⟩ (fun hc => ?_) (fun hc => ?_)
        · replace hR := hR.1 hc
          exact x_vret (pc := 43) rfl (show decode mX8_stitches.2.1 43 = .ok (.return_, 1) by decide +kernel) ⟨rfl, hR⟩
        · replace hR := hR.2 hc
          refine x_aload_n (pc := 37) (show decode mX8_stitches.2.1 37 = .ok (.aload_n 0, 1) by decide +kernel) rfl rfl ?_
          refine x_iload_n (pc := 38) (show decode mX8_stitches.2.1 38 = .ok (.iload_n 1, 1) by decide +kernel) rfl rfl ?_
          refine x_iload_n (pc := 39) (show decode mX8_stitches.2.1 39 = .ok (.iload_n 3, 1) by decide +kernel) rfl rfl ?_
          refine x_callV (pc := 40) (As := [.inl x1, .inl x3]) (rest := []) (lk8_152 rfl) im_X8_twists sl_X8_twists rfl rfl rfl (Nat.le_of_ble_eq_true rfl) (Nat.le_of_ble_eq_true rfl) (show decode mX8_stitches.2.1 40 = .ok (.invokevirtual 152, 3) by decide +kernel) hd hR (fun r9 h3 hq => ?_)
          obtain ⟨rfl, hR⟩ := hq
          show xG _ _ _ 43 _ [] _ _
          exact x_vret (pc := 43) rfl (show decode mX8_stitches.2.1 43 = .ok (.return_, 1) by decide +kernel) ⟨rfl, hR⟩
    · replace hR := hR.2 hc
      refine x_aload_n (pc := 15) (show decode mX8_stitches.2.1 15 = .ok (.aload_n 0, 1) by decide +kernel) rfl rfl ?_
      refine x_iload_n (pc := 16) (show decode mX8_stitches.2.1 16 = .ok (.iload_n 1, 1) by decide +kernel) rfl rfl ?_
      refine x_iload_n (pc := 17) (show decode mX8_stitches.2.1 17 = .ok (.iload_n 3, 1) by decide +kernel) rfl rfl ?_
      refine x_callV (pc := 18) (As := [.inl x1, .inl x3]) (rest := []) (lk8_152 rfl) im_X8_twists sl_X8_twists rfl rfl rfl (Nat.le_of_ble_eq_true rfl) (Nat.le_of_ble_eq_true rfl) (show decode mX8_stitches.2.1 18 = .ok (.invokevirtual 152, 3) by decide +kernel) hd hR (fun r9 h4 hq => ?_)
      obtain ⟨rfl, hR⟩ := hq
      show xG _ _ _ 21 _ [] _ _
      refine x_iload_n (pc := 21) (show decode mX8_stitches.2.1 21 = .ok (.iload_n 2, 1) by decide +kernel) rfl rfl ?_
      refine x_iconst (pc := 22) (n := 2) (show decode mX8_stitches.2.1 22 = .ok (.iconst 2, 1) by decide +kernel) ?_
      obtain ⟨hg, hR⟩ := hR
      refine x_icmp_le (pc := 23) (tgt := 32) (show decode mX8_stitches.2.1 23 = .ok (.if_icmp .le 9, 3) by decide +kernel) (by decide) ⟨hg, (by unfold inI; decide)⟩ (fun hc => ?_) (fun hc => ?_)
      · replace hR := hR.1 hc
        refine x_iload_n (pc := 32) (show decode mX8_stitches.2.1 32 = .ok (.iload_n 2, 1) by decide +kernel) rfl rfl ?_
        refine x_iconst (pc := 33) (n := 4) (show decode mX8_stitches.2.1 33 = .ok (.iconst 4, 1) by decide +kernel) ?_
        obtain ⟨hg, hR⟩ := hR
        refine x_icmp_ne (pc := 34) (tgt := 43) (show decode mX8_stitches.2.1 34 = .ok (.if_icmp .ne 9, 3) by decide +kernel) (by decide) ⟨hg, (by unfold inI; decide)⟩ (fun hc => ?_) (fun hc => ?_)
        · replace hR := hR.1 hc
          exact x_vret (pc := 43) rfl (show decode mX8_stitches.2.1 43 = .ok (.return_, 1) by decide +kernel) ⟨rfl, hR⟩
        · replace hR := hR.2 hc
          refine x_aload_n (pc := 37) (show decode mX8_stitches.2.1 37 = .ok (.aload_n 0, 1) by decide +kernel) rfl rfl ?_
          refine x_iload_n (pc := 38) (show decode mX8_stitches.2.1 38 = .ok (.iload_n 1, 1) by decide +kernel) rfl rfl ?_
          refine x_iload_n (pc := 39) (show decode mX8_stitches.2.1 39 = .ok (.iload_n 3, 1) by decide +kernel) rfl rfl ?_
          refine x_callV (pc := 40) (As := [.inl x1, .inl x3]) (rest := []) (lk8_152 rfl) im_X8_twists sl_X8_twists rfl rfl rfl (Nat.le_of_ble_eq_true rfl) (Nat.le_of_ble_eq_true rfl) (show decode mX8_stitches.2.1 40 = .ok (.invokevirtual 152, 3) by decide +kernel) hd hR (fun r9 h5 hq => ?_)
          obtain ⟨rfl, hR⟩ := hq
          show xG _ _ _ 43 _ [] _ _
          exact x_vret (pc := 43) rfl (show decode mX8_stitches.2.1 43 = .ok (.return_, 1) by decide +kernel) ⟨rfl, hR⟩
      · replace hR := hR.2 hc
        refine x_aload_n (pc := 26) (show decode mX8_stitches.2.1 26 = .ok (.aload_n 0, 1) by decide +kernel) rfl rfl ?_
        refine x_iload_n (pc := 27) (show decode mX8_stitches.2.1 27 = .ok (.iload_n 1, 1) by decide +kernel) rfl rfl ?_
        refine x_iload_n (pc := 28) (show decode mX8_stitches.2.1 28 = .ok (.iload_n 3, 1) by decide +kernel) rfl rfl ?_
        refine x_callV (pc := 29) (As := [.inl x1, .inl x3]) (rest := []) (lk8_148 rfl) im_X8_crosses sl_X8_crosses rfl rfl rfl (Nat.le_of_ble_eq_true rfl) (Nat.le_of_ble_eq_true rfl) (show decode mX8_stitches.2.1 29 = .ok (.invokevirtual 148, 3) by decide +kernel) hd hR (fun r9 h6 hq => ?_)
        obtain ⟨rfl, hR⟩ := hq
        show xG _ _ _ 32 _ [] _ _
        refine x_iload_n (pc := 32) (show decode mX8_stitches.2.1 32 = .ok (.iload_n 2, 1) by decide +kernel) rfl rfl ?_
        refine x_iconst (pc := 33) (n := 4) (show decode mX8_stitches.2.1 33 = .ok (.iconst 4, 1) by decide +kernel) ?_
        obtain ⟨hg, hR⟩ := hR
        refine x_icmp_ne (pc := 34) (tgt := 43) (show decode mX8_stitches.2.1 34 = .ok (.if_icmp .ne 9, 3) by decide +kernel) (by decide) ⟨hg, (by unfold inI; decide)⟩ (fun hc => ?_) (fun hc => ?_)
        · replace hR := hR.1 hc
          exact x_vret (pc := 43) rfl (show decode mX8_stitches.2.1 43 = .ok (.return_, 1) by decide +kernel) ⟨rfl, hR⟩
        · replace hR := hR.2 hc
          refine x_aload_n (pc := 37) (show decode mX8_stitches.2.1 37 = .ok (.aload_n 0, 1) by decide +kernel) rfl rfl ?_
          refine x_iload_n (pc := 38) (show decode mX8_stitches.2.1 38 = .ok (.iload_n 1, 1) by decide +kernel) rfl rfl ?_
          refine x_iload_n (pc := 39) (show decode mX8_stitches.2.1 39 = .ok (.iload_n 3, 1) by decide +kernel) rfl rfl ?_
          refine x_callV (pc := 40) (As := [.inl x1, .inl x3]) (rest := []) (lk8_152 rfl) im_X8_twists sl_X8_twists rfl rfl rfl (Nat.le_of_ble_eq_true rfl) (Nat.le_of_ble_eq_true rfl) (show decode mX8_stitches.2.1 40 = .ok (.invokevirtual 152, 3) by decide +kernel) hd hR (fun r9 h7 hq => ?_)
          obtain ⟨rfl, hR⟩ := hq
          show xG _ _ _ 43 _ [] _ _
          exact x_vret (pc := 43) rfl (show decode mX8_stitches.2.1 43 = .ok (.return_, 1) by decide +kernel) ⟨rfl, hR⟩
  · replace hR := hR.2 hc
    refine x_aload_n (pc := 5) (show decode mX8_stitches.2.1 5 = .ok (.aload_n 0, 1) by decide +kernel) rfl rfl ?_
    refine x_iload_n (pc := 6) (show decode mX8_stitches.2.1 6 = .ok (.iload_n 1, 1) by decide +kernel) rfl rfl ?_
    refine x_iload_n (pc := 7) (show decode mX8_stitches.2.1 7 = .ok (.iload_n 3, 1) by decide +kernel) rfl rfl ?_
    refine x_callV (pc := 8) (As := [.inl x1, .inl x3]) (rest := []) (lk8_148 rfl) im_X8_crosses sl_X8_crosses rfl rfl rfl (Nat.le_of_ble_eq_true rfl) (Nat.le_of_ble_eq_true rfl) (show decode mX8_stitches.2.1 8 = .ok (.invokevirtual 148, 3) by decide +kernel) hd hR (fun r9 h8 hq => ?_)
    obtain ⟨rfl, hR⟩ := hq
    show xG _ _ _ 11 _ [] _ _
    refine x_iload_n (pc := 11) (show decode mX8_stitches.2.1 11 = .ok (.iload_n 2, 1) by decide +kernel) rfl rfl ?_
    obtain ⟨hg, hR⟩ := hR
    refine x_if_le (pc := 12) (tgt := 21) (show decode mX8_stitches.2.1 12 = .ok (.ifCond .le 9, 3) by decide +kernel) (by decide) hg (fun hc => ?_) (fun hc => ?_)
    · replace hR := hR.1 hc
      refine x_iload_n (pc := 21) (show decode mX8_stitches.2.1 21 = .ok (.iload_n 2, 1) by decide +kernel) rfl rfl ?_
      refine x_iconst (pc := 22) (n := 2) (show decode mX8_stitches.2.1 22 = .ok (.iconst 2, 1) by decide +kernel) ?_
      obtain ⟨hg, hR⟩ := hR
      refine x_icmp_le (pc := 23) (tgt := 32) (show decode mX8_stitches.2.1 23 = .ok (.if_icmp .le 9, 3) by decide +kernel) (by decide) ⟨hg, (by unfold inI; decide)⟩ (fun hc => ?_) (fun hc => ?_)
      · replace hR := hR.1 hc
        refine x_iload_n (pc := 32) (show decode mX8_stitches.2.1 32 = .ok (.iload_n 2, 1) by decide +kernel) rfl rfl ?_
        refine x_iconst (pc := 33) (n := 4) (show decode mX8_stitches.2.1 33 = .ok (.iconst 4, 1) by decide +kernel) ?_
        obtain ⟨hg, hR⟩ := hR
        refine x_icmp_ne (pc := 34) (tgt := 43) (show decode mX8_stitches.2.1 34 = .ok (.if_icmp .ne 9, 3) by decide +kernel) (by decide) ⟨hg, (by unfold inI; decide)⟩ (fun hc => ?_) (fun hc => ?_)
        · replace hR := hR.1 hc
          exact x_vret (pc := 43) rfl (show decode mX8_stitches.2.1 43 = .ok (.return_, 1) by decide +kernel) ⟨rfl, hR⟩
        · replace hR := hR.2 hc
          refine x_aload_n (pc := 37) (show decode mX8_stitches.2.1 37 = .ok (.aload_n 0, 1) by decide +kernel) rfl rfl ?_
          refine x_iload_n (pc := 38) (show decode mX8_stitches.2.1 38 = .ok (.iload_n 1, 1) by decide +kernel) rfl rfl ?_
          refine x_iload_n (pc := 39) (show decode mX8_stitches.2.1 39 = .ok (.iload_n 3, 1) by decide +kernel) rfl rfl ?_
          refine x_callV (pc := 40) (As := [.inl x1, .inl x3]) (rest := []) (lk8_152 rfl) im_X8_twists sl_X8_twists rfl rfl rfl (Nat.le_of_ble_eq_true rfl) (Nat.le_of_ble_eq_true rfl) (show decode mX8_stitches.2.1 40 = .ok (.invokevirtual 152, 3) by decide +kernel) hd hR (fun r9 h9 hq => ?_)
          obtain ⟨rfl, hR⟩ := hq
          show xG _ _ _ 43 _ [] _ _
          exact x_vret (pc := 43) rfl (show decode mX8_stitches.2.1 43 = .ok (.return_, 1) by decide +kernel) ⟨rfl, hR⟩
      · replace hR := hR.2 hc
        refine x_aload_n (pc := 26) (show decode mX8_stitches.2.1 26 = .ok (.aload_n 0, 1) by decide +kernel) rfl rfl ?_
        refine x_iload_n (pc := 27) (show decode mX8_stitches.2.1 27 = .ok (.iload_n 1, 1) by decide +kernel) rfl rfl ?_
        refine x_iload_n (pc := 28) (show decode mX8_stitches.2.1 28 = .ok (.iload_n 3, 1) by decide +kernel) rfl rfl ?_
        refine x_callV (pc := 29) (As := [.inl x1, .inl x3]) (rest := []) (lk8_148 rfl) im_X8_crosses sl_X8_crosses rfl rfl rfl (Nat.le_of_ble_eq_true rfl) (Nat.le_of_ble_eq_true rfl) (show decode mX8_stitches.2.1 29 = .ok (.invokevirtual 148, 3) by decide +kernel) hd hR (fun r9 h10 hq => ?_)
        obtain ⟨rfl, hR⟩ := hq
        show xG _ _ _ 32 _ [] _ _
        refine x_iload_n (pc := 32) (show decode mX8_stitches.2.1 32 = .ok (.iload_n 2, 1) by decide +kernel) rfl rfl ?_
        refine x_iconst (pc := 33) (n := 4) (show decode mX8_stitches.2.1 33 = .ok (.iconst 4, 1) by decide +kernel) ?_
        obtain ⟨hg, hR⟩ := hR
        refine x_icmp_ne (pc := 34) (tgt := 43) (show decode mX8_stitches.2.1 34 = .ok (.if_icmp .ne 9, 3) by decide +kernel) (by decide) ⟨hg, (by unfold inI; decide)⟩ (fun hc => ?_) (fun hc => ?_)
        · replace hR := hR.1 hc
          exact x_vret (pc := 43) rfl (show decode mX8_stitches.2.1 43 = .ok (.return_, 1) by decide +kernel) ⟨rfl, hR⟩
        · replace hR := hR.2 hc
          refine x_aload_n (pc := 37) (show decode mX8_stitches.2.1 37 = .ok (.aload_n 0, 1) by decide +kernel) rfl rfl ?_
          refine x_iload_n (pc := 38) (show decode mX8_stitches.2.1 38 = .ok (.iload_n 1, 1) by decide +kernel) rfl rfl ?_
          refine x_iload_n (pc := 39) (show decode mX8_stitches.2.1 39 = .ok (.iload_n 3, 1) by decide +kernel) rfl rfl ?_
          refine x_callV (pc := 40) (As := [.inl x1, .inl x3]) (rest := []) (lk8_152 rfl) im_X8_twists sl_X8_twists rfl rfl rfl (Nat.le_of_ble_eq_true rfl) (Nat.le_of_ble_eq_true rfl) (show decode mX8_stitches.2.1 40 = .ok (.invokevirtual 152, 3) by decide +kernel) hd hR (fun r9 h11 hq => ?_)
          obtain ⟨rfl, hR⟩ := hq
          show xG _ _ _ 43 _ [] _ _
          exact x_vret (pc := 43) rfl (show decode mX8_stitches.2.1 43 = .ok (.return_, 1) by decide +kernel) ⟨rfl, hR⟩
    · replace hR := hR.2 hc
      refine x_aload_n (pc := 15) (show decode mX8_stitches.2.1 15 = .ok (.aload_n 0, 1) by decide +kernel) rfl rfl ?_
      refine x_iload_n (pc := 16) (show decode mX8_stitches.2.1 16 = .ok (.iload_n 1, 1) by decide +kernel) rfl rfl ?_
      refine x_iload_n (pc := 17) (show decode mX8_stitches.2.1 17 = .ok (.iload_n 3, 1) by decide +kernel) rfl rfl ?_
      refine x_callV (pc := 18) (As := [.inl x1, .inl x3]) (rest := []) (lk8_152 rfl) im_X8_twists sl_X8_twists rfl rfl rfl (Nat.le_of_ble_eq_true rfl) (Nat.le_of_ble_eq_true rfl) (show decode mX8_stitches.2.1 18 = .ok (.invokevirtual 152, 3) by decide +kernel) hd hR (fun r9 h12 hq => ?_)
      obtain ⟨rfl, hR⟩ := hq
      show xG _ _ _ 21 _ [] _ _
      refine x_iload_n (pc := 21) (show decode mX8_stitches.2.1 21 = .ok (.iload_n 2, 1) by decide +kernel) rfl rfl ?_
      refine x_iconst (pc := 22) (n := 2) (show decode mX8_stitches.2.1 22 = .ok (.iconst 2, 1) by decide +kernel) ?_
      obtain ⟨hg, hR⟩ := hR
      refine x_icmp_le (pc := 23) (tgt := 32) (show decode mX8_stitches.2.1 23 = .ok (.if_icmp .le 9, 3) by decide +kernel) (by decide) ⟨hg, (by unfold inI; decide)⟩ (fun hc => ?_) (fun hc => ?_)
      · replace hR := hR.1 hc
        refine x_iload_n (pc := 32) (show decode mX8_stitches.2.1 32 = .ok (.iload_n 2, 1) by decide +kernel) rfl rfl ?_
        refine x_iconst (pc := 33) (n := 4) (show decode mX8_stitches.2.1 33 = .ok (.iconst 4, 1) by decide +kernel) ?_
        obtain ⟨hg, hR⟩ := hR
        refine x_icmp_ne (pc := 34) (tgt := 43) (show decode mX8_stitches.2.1 34 = .ok (.if_icmp .ne 9, 3) by decide +kernel) (by decide) ⟨hg, (by unfold inI; decide)⟩ (fun hc => ?_) (fun hc => ?_)
        · replace hR := hR.1 hc
          exact x_vret (pc := 43) rfl (show decode mX8_stitches.2.1 43 = .ok (.return_, 1) by decide +kernel) ⟨rfl, hR⟩
        · replace hR := hR.2 hc
          refine x_aload_n (pc := 37) (show decode mX8_stitches.2.1 37 = .ok (.aload_n 0, 1) by decide +kernel) rfl rfl ?_
          refine x_iload_n (pc := 38) (show decode mX8_stitches.2.1 38 = .ok (.iload_n 1, 1) by decide +kernel) rfl rfl ?_
          refine x_iload_n (pc := 39) (show decode mX8_stitches.2.1 39 = .ok (.iload_n 3, 1) by decide +kernel) rfl rfl ?_
          refine x_callV (pc := 40) (As := [.inl x1, .inl x3]) (rest := []) (lk8_152 rfl) im_X8_twists sl_X8_twists rfl rfl rfl (Nat.le_of_ble_eq_true rfl) (Nat.le_of_ble_eq_true rfl) (show decode mX8_stitches.2.1 40 = .ok (.invokevirtual 152, 3) by decide +kernel) hd hR (fun r9 h13 hq => ?_)
          obtain ⟨rfl, hR⟩ := hq
          show xG _ _ _ 43 _ [] _ _
          exact x_vret (pc := 43) rfl (show decode mX8_stitches.2.1 43 = .ok (.return_, 1) by decide +kernel) ⟨rfl, hR⟩
      · replace hR := hR.2 hc
        refine x_aload_n (pc := 26) (show decode mX8_stitches.2.1 26 = .ok (.aload_n 0, 1) by decide +kernel) rfl rfl ?_
        refine x_iload_n (pc := 27) (show decode mX8_stitches.2.1 27 = .ok (.iload_n 1, 1) by decide +kernel) rfl rfl ?_
        refine x_iload_n (pc := 28) (show decode mX8_stitches.2.1 28 = .ok (.iload_n 3, 1) by decide +kernel) rfl rfl ?_
        refine x_callV (pc := 29) (As := [.inl x1, .inl x3]) (rest := []) (lk8_148 rfl) im_X8_crosses sl_X8_crosses rfl rfl rfl (Nat.le_of_ble_eq_true rfl) (Nat.le_of_ble_eq_true rfl) (show decode mX8_stitches.2.1 29 = .ok (.invokevirtual 148, 3) by decide +kernel) hd hR (fun r9 h14 hq => ?_)
        obtain ⟨rfl, hR⟩ := hq
        show xG _ _ _ 32 _ [] _ _
        refine x_iload_n (pc := 32) (show decode mX8_stitches.2.1 32 = .ok (.iload_n 2, 1) by decide +kernel) rfl rfl ?_
        refine x_iconst (pc := 33) (n := 4) (show decode mX8_stitches.2.1 33 = .ok (.iconst 4, 1) by decide +kernel) ?_
        obtain ⟨hg, hR⟩ := hR
        refine x_icmp_ne (pc := 34) (tgt := 43) (show decode mX8_stitches.2.1 34 = .ok (.if_icmp .ne 9, 3) by decide +kernel) (by decide) ⟨hg, (by unfold inI; decide)⟩ (fun hc => ?_) (fun hc => ?_)
        · replace hR := hR.1 hc
          exact x_vret (pc := 43) rfl (show decode mX8_stitches.2.1 43 = .ok (.return_, 1) by decide +kernel) ⟨rfl, hR⟩
        · replace hR := hR.2 hc
          refine x_aload_n (pc := 37) (show decode mX8_stitches.2.1 37 = .ok (.aload_n 0, 1) by decide +kernel) rfl rfl ?_
          refine x_iload_n (pc := 38) (show decode mX8_stitches.2.1 38 = .ok (.iload_n 1, 1) by decide +kernel) rfl rfl ?_
          refine x_iload_n (pc := 39) (show decode mX8_stitches.2.1 39 = .ok (.iload_n 3, 1) by decide +kernel) rfl rfl ?_
          refine x_callV (pc := 40) (As := [.inl x1, .inl x3]) (rest := []) (lk8_152 rfl) im_X8_twists sl_X8_twists rfl rfl rfl (Nat.le_of_ble_eq_true rfl) (Nat.le_of_ble_eq_true rfl) (show decode mX8_stitches.2.1 40 = .ok (.invokevirtual 152, 3) by decide +kernel) hd hR (fun r9 h15 hq => ?_)
          obtain ⟨rfl, hR⟩ := hq
          show xG _ _ _ 43 _ [] _ _
          exact x_vret (pc := 43) rfl (show decode mX8_stitches.2.1 43 = .ok (.return_, 1) by decide +kernel) ⟨rfl, hR⟩
set_option maxRecDepth 4000 in
theorem sg_X8_works_0 {d : Nat} {x1 : Int} {h : xH} {Q : xH → Prop}
    (hR : (0 ≤ (205 + (50 * (h 1 4))) ∧ (205 + (50 * (h 1 4))) < 1705) ∧ (0 ≤ ((205 + (50 * (h 1 4))) + 1) ∧ ((205 + (50 * (h 1 4))) + 1) < 1705) ∧ gV wdM d mX8_works 37 [some (.inr (.inr 0)), some (.inl x1), some (.inl (205 + (50 * (h 1 4)))), some (.inl 0)] (xu (xu h 1 (205 + (50 * (h 1 4))) (h 1 3)) 1 ((205 + (50 * (h 1 4))) + 1) x1) Q) :
    gV wdM d mX8_works 0 [some (.inr (.inr 0)), some (.inl x1), none, none] h Q := by
  unfold gV
  refine x_sipush (pc := 0) (n := 205) (show decode mX8_works.2.1 0 = .ok (.sipush 205, 3) by decide +kernel) rfl ?_
  refine x_bipush (pc := 3) (n := 50) (show decode mX8_works.2.1 3 = .ok (.bipush 50, 2) by decide +kernel) rfl ?_
  refine x_aload_n (pc := 5) (show decode mX8_works.2.1 5 = .ok (.aload_n 0, 1) by decide +kernel) rfl rfl ?_
  refine x_getR (pc := 6) f8_11 rfl rfl (show decode mX8_works.2.1 6 = .ok (.getfield 11, 3) by decide +kernel) ?_
  refine x_iconst (pc := 9) (n := 4) (show decode mX8_works.2.1 9 = .ok (.iconst 4, 1) by decide +kernel) ?_
  refine x_iald (pc := 10) rfl (by decide) (by decide) (show decode mX8_works.2.1 10 = .ok (.iaload, 1) by decide +kernel) ?_
  refine x_imul (pc := 11) (show decode mX8_works.2.1 11 = .ok (.imul, 1) by decide +kernel) ?_
  refine x_iadd (pc := 12) (show decode mX8_works.2.1 12 = .ok (.iadd, 1) by decide +kernel) ?_
  refine x_istore_n (pc := 13) (ls' := [some (.inr (.inr 0)), some (.inl x1), some (.inl (205 + (50 * (h 1 4)))), none]) (show decode mX8_works.2.1 13 = .ok (.istore_n 2, 1) by decide +kernel) rfl (by decide) rfl ?_
  refine x_aload_n (pc := 14) (show decode mX8_works.2.1 14 = .ok (.aload_n 0, 1) by decide +kernel) rfl rfl ?_
  refine x_getR (pc := 15) f8_11 rfl rfl (show decode mX8_works.2.1 15 = .ok (.getfield 11, 3) by decide +kernel) ?_
  refine x_iload_n (pc := 18) (show decode mX8_works.2.1 18 = .ok (.iload_n 2, 1) by decide +kernel) rfl rfl ?_
  refine x_aload_n (pc := 19) (show decode mX8_works.2.1 19 = .ok (.aload_n 0, 1) by decide +kernel) rfl rfl ?_
  refine x_getR (pc := 20) f8_11 rfl rfl (show decode mX8_works.2.1 20 = .ok (.getfield 11, 3) by decide +kernel) ?_
  refine x_iconst (pc := 23) (n := 3) (show decode mX8_works.2.1 23 = .ok (.iconst 3, 1) by decide +kernel) ?_
  refine x_iald (pc := 24) rfl (by decide) (by decide) (show decode mX8_works.2.1 24 = .ok (.iaload, 1) by decide +kernel) ?_
  obtain ⟨hg, hR⟩ := hR
  refine x_iast (pc := 25) rfl (by decide) hg (show decode mX8_works.2.1 25 = .ok (.iastore, 1) by decide +kernel) ?_
  refine x_aload_n (pc := 26) (show decode mX8_works.2.1 26 = .ok (.aload_n 0, 1) by decide +kernel) rfl rfl ?_
  refine x_getR (pc := 27) f8_11 rfl rfl (show decode mX8_works.2.1 27 = .ok (.getfield 11, 3) by decide +kernel) ?_
  refine x_iload_n (pc := 30) (show decode mX8_works.2.1 30 = .ok (.iload_n 2, 1) by decide +kernel) rfl rfl ?_
  refine x_iconst (pc := 31) (n := 1) (show decode mX8_works.2.1 31 = .ok (.iconst 1, 1) by decide +kernel) ?_
  refine x_iadd (pc := 32) (show decode mX8_works.2.1 32 = .ok (.iadd, 1) by decide +kernel) ?_
  refine x_iload_n (pc := 33) (show decode mX8_works.2.1 33 = .ok (.iload_n 1, 1) by decide +kernel) rfl rfl ?_
  obtain ⟨hg, hR⟩ := hR
  refine x_iast (pc := 34) rfl (by decide) hg (show decode mX8_works.2.1 34 = .ok (.iastore, 1) by decide +kernel) ?_
  refine x_iconst (pc := 35) (n := 0) (show decode mX8_works.2.1 35 = .ok (.iconst 0, 1) by decide +kernel) ?_
  refine x_istore_n (pc := 36) (ls' := [some (.inr (.inr 0)), some (.inl x1), some (.inl (205 + (50 * (h 1 4)))), some (.inl 0)]) (show decode mX8_works.2.1 36 = .ok (.istore_n 3, 1) by decide +kernel) rfl (by decide) rfl ?_
  exact hR
set_option maxRecDepth 4000 in
theorem sg_X8_works_37 {d : Nat} {x1 x2 x3 : Int} {h : xH} {Q : xH → Prop} (hd : 1 ≤ d)
    (hR : (inI x3) ∧ (48 ≤ x3 → (0 ≤ (35 + x1) ∧ (35 + x1) < 1705) ∧ (0 ≤ (65 + x1) ∧ (65 + x1) < 1705) ∧ cV wdM (d - 1) mX8_stitches [.inr (.inr 0), .inl (h 1 (35 + x1)), .inl (h 1 (65 + x1)), .inl 1] h (fun h1 => (0 ≤ (95 + x1) ∧ (95 + x1) < 1705) ∧ (0 ≤ (35 + x1) ∧ (35 + x1) < 1705) ∧ Q (xu (xu (xu h1 1 (95 + x1) 1) 1 4 (((xu h1 1 (95 + x1) 1) 1 4) + 1)) 1 3 ((xu (xu h1 1 (95 + x1) 1) 1 4 (((xu h1 1 (95 + x1) 1) 1 4) + 1)) 1 (35 + x1))))) ∧ (x3 < 48 → (0 ≤ (157 + x3) ∧ (157 + x3) < 1705) ∧ (0 ≤ ((x2 + 2) + x3) ∧ ((x2 + 2) + x3) < 1705) ∧ gV wdM d mX8_works 37 [some (.inr (.inr 0)), some (.inl x1), some (.inl x2), some (.inl (x3 + 1))] (xu h 1 ((x2 + 2) + x3) (h 1 (157 + x3))) Q)) :
    gV wdM d mX8_works 37 [some (.inr (.inr 0)), some (.inl x1), some (.inl x2), some (.inl x3)] h Q := by
  unfold gV
  refine x_iload_n (pc := 37) (show decode mX8_works.2.1 37 = .ok (.iload_n 3, 1) by decide +kernel) rfl rfl ?_
  refine x_bipush (pc := 38) (n := 48) (show decode mX8_works.2.1 38 = .ok (.bipush 48, 2) by decide +kernel) rfl ?_
  obtain ⟨hg, hR⟩ := hR
  refine x_icmp_ge (pc := 40) (tgt := 69) (show decode mX8_works.2.1 40 = .ok (.if_icmp .ge 29, 3) by decide +kernel) (by decide) ⟨hg, (by unfold inI; decide)⟩ (fun hc => ?_) (fun hc => ?_)
  · replace hR := hR.1 hc
    refine x_aload_n (pc := 69) (show decode mX8_works.2.1 69 = .ok (.aload_n 0, 1) by decide +kernel) rfl rfl ?_
    refine x_aload_n (pc := 70) (show decode mX8_works.2.1 70 = .ok (.aload_n 0, 1) by decide +kernel) rfl rfl ?_
    refine x_getR (pc := 71) f8_11 rfl rfl (show decode mX8_works.2.1 71 = .ok (.getfield 11, 3) by decide +kernel) ?_
    refine x_bipush (pc := 74) (n := 35) (show decode mX8_works.2.1 74 = .ok (.bipush 35, 2) by decide +kernel) rfl ?_
    refine x_iload_n (pc := 76) (show decode mX8_works.2.1 76 = .ok (.iload_n 1, 1) by decide +kernel) rfl rfl ?_
    refine x_iadd (pc := 77) (show decode mX8_works.2.1 77 = .ok (.iadd, 1) by decide +kernel) ?_
    obtain ⟨hg, hR⟩ := hR
    refine x_iald (pc := 78) rfl (by decide) hg (show decode mX8_works.2.1 78 = .ok (.iaload, 1) by decide +kernel) ?_
    refine x_aload_n (pc := 79) (show decode mX8_works.2.1 79 = .ok (.aload_n 0, 1) by decide +kernel) rfl rfl ?_
    refine x_getR (pc := 80) f8_11 rfl rfl (show decode mX8_works.2.1 80 = .ok (.getfield 11, 3) by decide +kernel) ?_
    refine x_bipush (pc := 83) (n := 65) (show decode mX8_works.2.1 83 = .ok (.bipush 65, 2) by decide +kernel) rfl ?_
    refine x_iload_n (pc := 85) (show decode mX8_works.2.1 85 = .ok (.iload_n 1, 1) by decide +kernel) rfl rfl ?_
    refine x_iadd (pc := 86) (show decode mX8_works.2.1 86 = .ok (.iadd, 1) by decide +kernel) ?_
    obtain ⟨hg, hR⟩ := hR
    refine x_iald (pc := 87) rfl (by decide) hg (show decode mX8_works.2.1 87 = .ok (.iaload, 1) by decide +kernel) ?_
    refine x_iconst (pc := 88) (n := 1) (show decode mX8_works.2.1 88 = .ok (.iconst 1, 1) by decide +kernel) ?_
    refine x_callV (pc := 89) (As := [.inl (h 1 (35 + x1)), .inl (h 1 (65 + x1)), .inl 1]) (rest := []) (lk8_155 rfl) im_X8_stitches sl_X8_stitches rfl rfl rfl (Nat.le_of_ble_eq_true rfl) (Nat.le_of_ble_eq_true rfl) (show decode mX8_works.2.1 89 = .ok (.invokevirtual 155, 3) by decide +kernel) hd hR (fun r9 h1 hq => ?_)
    obtain ⟨rfl, hR⟩ := hq
    show xG _ _ _ 92 _ [] _ _
    refine x_aload_n (pc := 92) (show decode mX8_works.2.1 92 = .ok (.aload_n 0, 1) by decide +kernel) rfl rfl ?_
    refine x_getR (pc := 93) f8_11 rfl rfl (show decode mX8_works.2.1 93 = .ok (.getfield 11, 3) by decide +kernel) ?_
    refine x_bipush (pc := 96) (n := 95) (show decode mX8_works.2.1 96 = .ok (.bipush 95, 2) by decide +kernel) rfl ?_
    refine x_iload_n (pc := 98) (show decode mX8_works.2.1 98 = .ok (.iload_n 1, 1) by decide +kernel) rfl rfl ?_
    refine x_iadd (pc := 99) (show decode mX8_works.2.1 99 = .ok (.iadd, 1) by decide +kernel) ?_
    refine x_iconst (pc := 100) (n := 1) (show decode mX8_works.2.1 100 = .ok (.iconst 1, 1) by decide +kernel) ?_
    obtain ⟨hg, hR⟩ := hR
    refine x_iast (pc := 101) rfl (by decide) hg (show decode mX8_works.2.1 101 = .ok (.iastore, 1) by decide +kernel) ?_
    refine x_aload_n (pc := 102) (show decode mX8_works.2.1 102 = .ok (.aload_n 0, 1) by decide +kernel) rfl rfl ?_
    refine x_getR (pc := 103) f8_11 rfl rfl (show decode mX8_works.2.1 103 = .ok (.getfield 11, 3) by decide +kernel) ?_
    refine x_iconst (pc := 106) (n := 4) (show decode mX8_works.2.1 106 = .ok (.iconst 4, 1) by decide +kernel) ?_
    refine x_dup2 (pc := 107) (show decode mX8_works.2.1 107 = .ok (.dup2, 1) by decide +kernel) rfl rfl ?_
    refine x_iald (pc := 108) rfl (by decide) (by decide) (show decode mX8_works.2.1 108 = .ok (.iaload, 1) by decide +kernel) ?_
    refine x_iconst (pc := 109) (n := 1) (show decode mX8_works.2.1 109 = .ok (.iconst 1, 1) by decide +kernel) ?_
    refine x_iadd (pc := 110) (show decode mX8_works.2.1 110 = .ok (.iadd, 1) by decide +kernel) ?_
    refine x_iast (pc := 111) rfl (by decide) (by decide) (show decode mX8_works.2.1 111 = .ok (.iastore, 1) by decide +kernel) ?_
    refine x_aload_n (pc := 112) (show decode mX8_works.2.1 112 = .ok (.aload_n 0, 1) by decide +kernel) rfl rfl ?_
    refine x_getR (pc := 113) f8_11 rfl rfl (show decode mX8_works.2.1 113 = .ok (.getfield 11, 3) by decide +kernel) ?_
    refine x_iconst (pc := 116) (n := 3) (show decode mX8_works.2.1 116 = .ok (.iconst 3, 1) by decide +kernel) ?_
    refine x_aload_n (pc := 117) (show decode mX8_works.2.1 117 = .ok (.aload_n 0, 1) by decide +kernel) rfl rfl ?_
    refine x_getR (pc := 118) f8_11 rfl rfl (show decode mX8_works.2.1 118 = .ok (.getfield 11, 3) by decide +kernel) ?_
    refine x_bipush (pc := 121) (n := 35) (show decode mX8_works.2.1 121 = .ok (.bipush 35, 2) by decide +kernel) rfl ?_
    refine x_iload_n (pc := 123) (show decode mX8_works.2.1 123 = .ok (.iload_n 1, 1) by decide +kernel) rfl rfl ?_
    refine x_iadd (pc := 124) (show decode mX8_works.2.1 124 = .ok (.iadd, 1) by decide +kernel) ?_
    obtain ⟨hg, hR⟩ := hR
    refine x_iald (pc := 125) rfl (by decide) hg (show decode mX8_works.2.1 125 = .ok (.iaload, 1) by decide +kernel) ?_
    refine x_iast (pc := 126) rfl (by decide) (by decide) (show decode mX8_works.2.1 126 = .ok (.iastore, 1) by decide +kernel) ?_
    exact x_vret (pc := 127) rfl (show decode mX8_works.2.1 127 = .ok (.return_, 1) by decide +kernel) ⟨rfl, hR⟩
  · replace hR := hR.2 hc
    refine x_aload_n (pc := 43) (show decode mX8_works.2.1 43 = .ok (.aload_n 0, 1) by decide +kernel) rfl rfl ?_
    refine x_getR (pc := 44) f8_11 rfl rfl (show decode mX8_works.2.1 44 = .ok (.getfield 11, 3) by decide +kernel) ?_
    refine x_iload_n (pc := 47) (show decode mX8_works.2.1 47 = .ok (.iload_n 2, 1) by decide +kernel) rfl rfl ?_
    refine x_iconst (pc := 48) (n := 2) (show decode mX8_works.2.1 48 = .ok (.iconst 2, 1) by decide +kernel) ?_
    refine x_iadd (pc := 49) (show decode mX8_works.2.1 49 = .ok (.iadd, 1) by decide +kernel) ?_
    refine x_iload_n (pc := 50) (show decode mX8_works.2.1 50 = .ok (.iload_n 3, 1) by decide +kernel) rfl rfl ?_
    refine x_iadd (pc := 51) (show decode mX8_works.2.1 51 = .ok (.iadd, 1) by decide +kernel) ?_
    refine x_aload_n (pc := 52) (show decode mX8_works.2.1 52 = .ok (.aload_n 0, 1) by decide +kernel) rfl rfl ?_
    refine x_getR (pc := 53) f8_11 rfl rfl (show decode mX8_works.2.1 53 = .ok (.getfield 11, 3) by decide +kernel) ?_
    refine x_sipush (pc := 56) (n := 157) (show decode mX8_works.2.1 56 = .ok (.sipush 157, 3) by decide +kernel) rfl ?_
    refine x_iload_n (pc := 59) (show decode mX8_works.2.1 59 = .ok (.iload_n 3, 1) by decide +kernel) rfl rfl ?_
    refine x_iadd (pc := 60) (show decode mX8_works.2.1 60 = .ok (.iadd, 1) by decide +kernel) ?_
    obtain ⟨hg, hR⟩ := hR
    refine x_iald (pc := 61) rfl (by decide) hg (show decode mX8_works.2.1 61 = .ok (.iaload, 1) by decide +kernel) ?_
    obtain ⟨hg, hR⟩ := hR
    refine x_iast (pc := 62) rfl (by decide) hg (show decode mX8_works.2.1 62 = .ok (.iastore, 1) by decide +kernel) ?_
    refine x_iinc (pc := 63) (ls' := [some (.inr (.inr 0)), some (.inl x1), some (.inl x2), some (.inl (x3 + 1))]) (show decode mX8_works.2.1 63 = .ok (.iinc 3 1, 3) by decide +kernel) (by decide) rfl rfl ?_
    refine x_goto (pc := 66) (tgt := 37) (show decode mX8_works.2.1 66 = .ok (.goto (-29), 3) by decide +kernel) (by decide) ?_
    exact hR
set_option maxRecDepth 4000 in
theorem sg_X8_work_0 {d : Nat} {x1 : Int} {h : xH} {Q : Int → xH → Prop} (hd : 1 ≤ d)
    (hR : cB wdM (d - 1) mX8_isPin [.inr (.inr 0), .inl x1] h (fun h1 => cV wdM (d - 1) mX8_findsAll [.inr (.inr 0)] h1 (fun h2 => cB wdM (d - 1) mX8_isReady [.inr (.inr 0), .inl x1] h2 (fun h3 => cV wdM (d - 1) mX8_works [.inr (.inr 0), .inl x1] h3 (fun h4 => Q (h4 1 4) h4)) (fun h3 => Q (-3) h3))) (fun h1 => Q (-1) h1)) :
    gI wdM d mX8_work 0 [some (.inr (.inr 0)), some (.inl x1)] h Q := by
  unfold gI
  refine x_aload_n (pc := 0) (show decode mX8_work.2.1 0 = .ok (.aload_n 0, 1) by decide +kernel) rfl rfl ?_
  refine x_iload_n (pc := 1) (show decode mX8_work.2.1 1 = .ok (.iload_n 1, 1) by decide +kernel) rfl rfl ?_
  refine x_callV (pc := 2) (As := [.inl x1]) (rest := []) (lk8_95 rfl) im_X8_isPin sl_X8_isPin rfl rfl rfl (Nat.le_of_ble_eq_true rfl) (Nat.le_of_ble_eq_true rfl) (show decode mX8_work.2.1 2 = .ok (.invokevirtual 95, 3) by decide +kernel) hd hR (fun r9 h1 hq => ?_)
  obtain ⟨r8, rfl, hq⟩ := hq
  rcases hq with ⟨rfl, hR⟩ | ⟨rfl, hR⟩
  · show xG _ _ _ 5 _ [.inl 1] _ _
    refine x_if_ne (pc := 5) (tgt := 10) (show decode mX8_work.2.1 5 = .ok (.ifCond .ne 5, 3) by decide +kernel) (by decide) (by unfold inI; decide) (fun _ => ?_) (fun hc => absurd hc (by decide))
    refine x_aload_n (pc := 10) (show decode mX8_work.2.1 10 = .ok (.aload_n 0, 1) by decide +kernel) rfl rfl ?_
    refine x_callV (pc := 11) (As := []) (rest := []) (lk8_136 rfl) im_X8_findsAll sl_X8_findsAll rfl rfl rfl (Nat.le_of_ble_eq_true rfl) (Nat.le_of_ble_eq_true rfl) (show decode mX8_work.2.1 11 = .ok (.invokevirtual 136, 3) by decide +kernel) hd hR (fun r9 h2 hq => ?_)
    obtain ⟨rfl, hR⟩ := hq
    show xG _ _ _ 14 _ [] _ _
    refine x_aload_n (pc := 14) (show decode mX8_work.2.1 14 = .ok (.aload_n 0, 1) by decide +kernel) rfl rfl ?_
    refine x_iload_n (pc := 15) (show decode mX8_work.2.1 15 = .ok (.iload_n 1, 1) by decide +kernel) rfl rfl ?_
    refine x_callV (pc := 16) (As := [.inl x1]) (rest := []) (lk8_141 rfl) im_X8_isReady sl_X8_isReady rfl rfl rfl (Nat.le_of_ble_eq_true rfl) (Nat.le_of_ble_eq_true rfl) (show decode mX8_work.2.1 16 = .ok (.invokevirtual 141, 3) by decide +kernel) hd hR (fun r9 h3 hq => ?_)
    obtain ⟨r8, rfl, hq⟩ := hq
    rcases hq with ⟨rfl, hR⟩ | ⟨rfl, hR⟩
    · show xG _ _ _ 19 _ [.inl 1] _ _
      refine x_if_ne (pc := 19) (tgt := 25) (show decode mX8_work.2.1 19 = .ok (.ifCond .ne 6, 3) by decide +kernel) (by decide) (by unfold inI; decide) (fun _ => ?_) (fun hc => absurd hc (by decide))
      refine x_aload_n (pc := 25) (show decode mX8_work.2.1 25 = .ok (.aload_n 0, 1) by decide +kernel) rfl rfl ?_
      refine x_iload_n (pc := 26) (show decode mX8_work.2.1 26 = .ok (.iload_n 1, 1) by decide +kernel) rfl rfl ?_
      refine x_callV (pc := 27) (As := [.inl x1]) (rest := []) (lk8_158 rfl) im_X8_works sl_X8_works rfl rfl rfl (Nat.le_of_ble_eq_true rfl) (Nat.le_of_ble_eq_true rfl) (show decode mX8_work.2.1 27 = .ok (.invokevirtual 158, 3) by decide +kernel) hd hR (fun r9 h4 hq => ?_)
      obtain ⟨rfl, hR⟩ := hq
      show xG _ _ _ 30 _ [] _ _
      refine x_aload_n (pc := 30) (show decode mX8_work.2.1 30 = .ok (.aload_n 0, 1) by decide +kernel) rfl rfl ?_
      refine x_getR (pc := 31) f8_11 rfl rfl (show decode mX8_work.2.1 31 = .ok (.getfield 11, 3) by decide +kernel) ?_
      refine x_iconst (pc := 34) (n := 4) (show decode mX8_work.2.1 34 = .ok (.iconst 4, 1) by decide +kernel) ?_
      refine x_iald (pc := 35) rfl (by decide) (by decide) (show decode mX8_work.2.1 35 = .ok (.iaload, 1) by decide +kernel) ?_
      exact x_iret (pc := 36) rfl (show decode mX8_work.2.1 36 = .ok (.ireturn, 1) by decide +kernel) ⟨_, rfl, hR⟩
    · show xG _ _ _ 19 _ [.inl 0] _ _
      refine x_if_ne (pc := 19) (tgt := 25) (show decode mX8_work.2.1 19 = .ok (.ifCond .ne 6, 3) by decide +kernel) (by decide) (by unfold inI; decide) (fun hc => absurd hc (by decide)) (fun _ => ?_)
      refine x_bipush (pc := 22) (n := (-3)) (show decode mX8_work.2.1 22 = .ok (.bipush (-3), 2) by decide +kernel) rfl ?_
      exact x_iret (pc := 24) rfl (show decode mX8_work.2.1 24 = .ok (.ireturn, 1) by decide +kernel) ⟨_, rfl, hR⟩
  · show xG _ _ _ 5 _ [.inl 0] _ _
    refine x_if_ne (pc := 5) (tgt := 10) (show decode mX8_work.2.1 5 = .ok (.ifCond .ne 5, 3) by decide +kernel) (by decide) (by unfold inI; decide) (fun hc => absurd hc (by decide)) (fun _ => ?_)
    refine x_iconst (pc := 8) (n := (-1)) (show decode mX8_work.2.1 8 = .ok (.iconst (-1), 1) by decide +kernel) ?_
    exact x_iret (pc := 9) rfl (show decode mX8_work.2.1 9 = .ok (.ireturn, 1) by decide +kernel) ⟨_, rfl, hR⟩
set_option maxRecDepth 4000 in
theorem sg_X8_workAll_0 {d : Nat} {h : xH} {Q : Int → xH → Prop} (hd : 1 ≤ d)
    (hR : cV wdM (d - 1) mX8_findsAll [.inr (.inr 0)] h (fun h1 => gI wdM d mX8_workAll 6 [some (.inr (.inr 0)), some (.inl 0), none, none] h1 Q)) :
    gI wdM d mX8_workAll 0 [some (.inr (.inr 0)), none, none, none] h Q := by
  unfold gI
  refine x_aload_n (pc := 0) (show decode mX8_workAll.2.1 0 = .ok (.aload_n 0, 1) by decide +kernel) rfl rfl ?_
  refine x_callV (pc := 1) (As := []) (rest := []) (lk8_136 rfl) im_X8_findsAll sl_X8_findsAll rfl rfl rfl (Nat.le_of_ble_eq_true rfl) (Nat.le_of_ble_eq_true rfl) (show decode mX8_workAll.2.1 1 = .ok (.invokevirtual 136, 3) by decide +kernel) hd hR (fun r9 h1 hq => ?_)
  obtain ⟨rfl, hR⟩ := hq
  show xG _ _ _ 4 _ [] _ _
  refine x_iconst (pc := 4) (n := 0) (show decode mX8_workAll.2.1 4 = .ok (.iconst 0, 1) by decide +kernel) ?_
  refine x_istore_n (pc := 5) (ls' := [some (.inr (.inr 0)), some (.inl 0), none, none]) (show decode mX8_workAll.2.1 5 = .ok (.istore_n 1, 1) by decide +kernel) rfl (by decide) rfl ?_
  exact hR
set_option maxRecDepth 4000 in
theorem sg_X8_workAll_6 {d : Nat} {x1 : Int} {h : xH} {Q : Int → xH → Prop}
    (hR : gI wdM d mX8_workAll 10 [some (.inr (.inr 0)), some (.inl x1), some (.inl (-1)), some (.inl 0)] h Q) :
    gI wdM d mX8_workAll 6 [some (.inr (.inr 0)), some (.inl x1), none, none] h Q := by
  unfold gI
  refine x_iconst (pc := 6) (n := (-1)) (show decode mX8_workAll.2.1 6 = .ok (.iconst (-1), 1) by decide +kernel) ?_
  refine x_istore_n (pc := 7) (ls' := [some (.inr (.inr 0)), some (.inl x1), some (.inl (-1)), none]) (show decode mX8_workAll.2.1 7 = .ok (.istore_n 2, 1) by decide +kernel) rfl (by decide) rfl ?_
  refine x_iconst (pc := 8) (n := 0) (show decode mX8_workAll.2.1 8 = .ok (.iconst 0, 1) by decide +kernel) ?_
  refine x_istore_n (pc := 9) (ls' := [some (.inr (.inr 0)), some (.inl x1), some (.inl (-1)), some (.inl 0)]) (show decode mX8_workAll.2.1 9 = .ok (.istore_n 3, 1) by decide +kernel) rfl (by decide) rfl ?_
  exact hR
set_option maxRecDepth 4000 in
theorem sg_X8_workAll_10 {d : Nat} {x1 x2 x3 : Int} {h : xH} {Q : Int → xH → Prop} (hd : 1 ≤ d)
    (hR : (inI x3 ∧ inI (h 1 1)) ∧ ((h 1 1) ≤ x3 → (inI x2) ∧ (0 ≤ x2 → cV wdM (d - 1) mX8_works [.inr (.inr 0), .inl x2] h (fun h1 => gI wdM d mX8_workAll 6 [some (.inr (.inr 0)), some (.inl (x1 + 1)), none, none] h1 Q)) ∧ (x2 < 0 → Q x1 h)) ∧ (x3 < (h 1 1) → cB wdM (d - 1) mX8_isReady [.inr (.inr 0), .inl x3] h (fun h2 => (inI x2) ∧ (x2 < 0 → gI wdM d mX8_workAll 10 [some (.inr (.inr 0)), some (.inl x1), some (.inl x3), some (.inl (x3 + 1))] h2 Q) ∧ (0 ≤ x2 → (0 ≤ (5 + x3) ∧ (5 + x3) < 1705) ∧ (0 ≤ (35 + x3) ∧ (35 + x3) < 1705) ∧ (0 ≤ (5 + x2) ∧ (5 + x2) < 1705) ∧ (0 ≤ (35 + x2) ∧ (35 + x2) < 1705) ∧ (inI ((100 * (h2 1 (5 + x3))) + (h2 1 (35 + x3))) ∧ inI ((100 * (h2 1 (5 + x2))) + (h2 1 (35 + x2)))) ∧ (((100 * (h2 1 (5 + x2))) + (h2 1 (35 + x2))) ≤ ((100 * (h2 1 (5 + x3))) + (h2 1 (35 + x3))) → gI wdM d mX8_workAll 10 [some (.inr (.inr 0)), some (.inl x1), some (.inl x2), some (.inl (x3 + 1))] h2 Q) ∧ (((100 * (h2 1 (5 + x3))) + (h2 1 (35 + x3))) < ((100 * (h2 1 (5 + x2))) + (h2 1 (35 + x2))) → gI wdM d mX8_workAll 10 [some (.inr (.inr 0)), some (.inl x1), some (.inl x3), some (.inl (x3 + 1))] h2 Q))) (fun h2 => gI wdM d mX8_workAll 10 [some (.inr (.inr 0)), some (.inl x1), some (.inl x2), some (.inl (x3 + 1))] h2 Q))) :
    gI wdM d mX8_workAll 10 [some (.inr (.inr 0)), some (.inl x1), some (.inl x2), some (.inl x3)] h Q := by
  unfold gI
  refine x_iload_n (pc := 10) (show decode mX8_workAll.2.1 10 = .ok (.iload_n 3, 1) by decide +kernel) rfl rfl ?_
  refine x_aload_n (pc := 11) (show decode mX8_workAll.2.1 11 = .ok (.aload_n 0, 1) by decide +kernel) rfl rfl ?_
  refine x_getR (pc := 12) f8_11 rfl rfl (show decode mX8_workAll.2.1 12 = .ok (.getfield 11, 3) by decide +kernel) ?_
  refine x_iconst (pc := 15) (n := 1) (show decode mX8_workAll.2.1 15 = .ok (.iconst 1, 1) by decide +kernel) ?_
  refine x_iald (pc := 16) rfl (by decide) (by decide) (show decode mX8_workAll.2.1 16 = .ok (.iaload, 1) by decide +kernel) ?_
  obtain ⟨hg, hR⟩ := hR
  refine x_icmp_ge (pc := 17) (tgt := 85) (show decode mX8_workAll.2.1 17 = .ok (.if_icmp .ge 68, 3) by decide +kernel) (by decide) ⟨hg.1, hg.2⟩ (fun hc => ?_) (fun hc => ?_)
  · replace hR := hR.1 hc
    refine x_iload_n (pc := 85) (show decode mX8_workAll.2.1 85 = .ok (.iload_n 2, 1) by decide +kernel) rfl rfl ?_
    obtain ⟨hg, hR⟩ := hR
    refine x_if_ge (pc := 86) (tgt := 91) (show decode mX8_workAll.2.1 86 = .ok (.ifCond .ge 5, 3) by decide +kernel) (by decide) hg (fun hc => ?_) (fun hc => ?_)
    · replace hR := hR.1 hc
      refine x_aload_n (pc := 91) (show decode mX8_workAll.2.1 91 = .ok (.aload_n 0, 1) by decide +kernel) rfl rfl ?_
      refine x_iload_n (pc := 92) (show decode mX8_workAll.2.1 92 = .ok (.iload_n 2, 1) by decide +kernel) rfl rfl ?_
      refine x_callV (pc := 93) (As := [.inl x2]) (rest := []) (lk8_158 rfl) im_X8_works sl_X8_works rfl rfl rfl (Nat.le_of_ble_eq_true rfl) (Nat.le_of_ble_eq_true rfl) (show decode mX8_workAll.2.1 93 = .ok (.invokevirtual 158, 3) by decide +kernel) hd hR (fun r9 h1 hq => ?_)
      obtain ⟨rfl, hR⟩ := hq
      show xG _ _ _ 96 _ [] _ _
      refine x_iinc (pc := 96) (ls' := [some (.inr (.inr 0)), some (.inl (x1 + 1)), some (.inl x2), some (.inl x3)]) (show decode mX8_workAll.2.1 96 = .ok (.iinc 1 1, 3) by decide +kernel) (by decide) rfl rfl ?_
      refine x_goto (pc := 99) (tgt := 6) (show decode mX8_workAll.2.1 99 = .ok (.goto (-93), 3) by decide +kernel) (by decide) ?_
      exact x_weak (xle_get (by repeat' constructor)) hR
    · replace hR := hR.2 hc
      refine x_iload_n (pc := 89) (show decode mX8_workAll.2.1 89 = .ok (.iload_n 1, 1) by decide +kernel) rfl rfl ?_
      exact x_iret (pc := 90) rfl (show decode mX8_workAll.2.1 90 = .ok (.ireturn, 1) by decide +kernel) ⟨_, rfl, hR⟩
  · replace hR := hR.2 hc
    refine x_aload_n (pc := 20) (show decode mX8_workAll.2.1 20 = .ok (.aload_n 0, 1) by decide +kernel) rfl rfl ?_
    refine x_iload_n (pc := 21) (show decode mX8_workAll.2.1 21 = .ok (.iload_n 3, 1) by decide +kernel) rfl rfl ?_
    refine x_callV (pc := 22) (As := [.inl x3]) (rest := []) (lk8_141 rfl) im_X8_isReady sl_X8_isReady rfl rfl rfl (Nat.le_of_ble_eq_true rfl) (Nat.le_of_ble_eq_true rfl) (show decode mX8_workAll.2.1 22 = .ok (.invokevirtual 141, 3) by decide +kernel) hd hR (fun r9 h2 hq => ?_)
    obtain ⟨r8, rfl, hq⟩ := hq
    rcases hq with ⟨rfl, hR⟩ | ⟨rfl, hR⟩
    · show xG _ _ _ 25 _ [.inl 1] _ _
      refine x_if_eq (pc := 25) (tgt := 79) (show decode mX8_workAll.2.1 25 = .ok (.ifCond .eq 54, 3) by decide +kernel) (by decide) (by unfold inI; decide) (fun hc => absurd hc (by decide)) (fun _ => ?_)
      refine x_iload_n (pc := 28) (show decode mX8_workAll.2.1 28 = .ok (.iload_n 2, 1) by decide +kernel) rfl rfl ?_
      obtain ⟨hg, hR⟩ := hR
      refine x_if_lt (pc := 29) (tgt := 77) (show decode mX8_workAll.2.1 29 = .ok (.ifCond .lt 48, 3) by decide +kernel) (by decide) hg (fun hc => ?_) (fun hc => ?_)
      · replace hR := hR.1 hc
        refine x_iload_n (pc := 77) (show decode mX8_workAll.2.1 77 = .ok (.iload_n 3, 1) by decide +kernel) rfl rfl ?_
        refine x_istore_n (pc := 78) (ls' := [some (.inr (.inr 0)), some (.inl x1), some (.inl x3), some (.inl x3)]) (show decode mX8_workAll.2.1 78 = .ok (.istore_n 2, 1) by decide +kernel) rfl (by decide) rfl ?_
        refine x_iinc (pc := 79) (ls' := [some (.inr (.inr 0)), some (.inl x1), some (.inl x3), some (.inl (x3 + 1))]) (show decode mX8_workAll.2.1 79 = .ok (.iinc 3 1, 3) by decide +kernel) (by decide) rfl rfl ?_
        refine x_goto (pc := 82) (tgt := 10) (show decode mX8_workAll.2.1 82 = .ok (.goto (-72), 3) by decide +kernel) (by decide) ?_
        exact hR
      · replace hR := hR.2 hc
        refine x_bipush (pc := 32) (n := 100) (show decode mX8_workAll.2.1 32 = .ok (.bipush 100, 2) by decide +kernel) rfl ?_
        refine x_aload_n (pc := 34) (show decode mX8_workAll.2.1 34 = .ok (.aload_n 0, 1) by decide +kernel) rfl rfl ?_
        refine x_getR (pc := 35) f8_11 rfl rfl (show decode mX8_workAll.2.1 35 = .ok (.getfield 11, 3) by decide +kernel) ?_
        refine x_iconst (pc := 38) (n := 5) (show decode mX8_workAll.2.1 38 = .ok (.iconst 5, 1) by decide +kernel) ?_
        refine x_iload_n (pc := 39) (show decode mX8_workAll.2.1 39 = .ok (.iload_n 3, 1) by decide +kernel) rfl rfl ?_
        refine x_iadd (pc := 40) (show decode mX8_workAll.2.1 40 = .ok (.iadd, 1) by decide +kernel) ?_
        obtain ⟨hg, hR⟩ := hR
        refine x_iald (pc := 41) rfl (by decide) hg (show decode mX8_workAll.2.1 41 = .ok (.iaload, 1) by decide +kernel) ?_
        refine x_imul (pc := 42) (show decode mX8_workAll.2.1 42 = .ok (.imul, 1) by decide +kernel) ?_
        refine x_aload_n (pc := 43) (show decode mX8_workAll.2.1 43 = .ok (.aload_n 0, 1) by decide +kernel) rfl rfl ?_
        refine x_getR (pc := 44) f8_11 rfl rfl (show decode mX8_workAll.2.1 44 = .ok (.getfield 11, 3) by decide +kernel) ?_
        refine x_bipush (pc := 47) (n := 35) (show decode mX8_workAll.2.1 47 = .ok (.bipush 35, 2) by decide +kernel) rfl ?_
        refine x_iload_n (pc := 49) (show decode mX8_workAll.2.1 49 = .ok (.iload_n 3, 1) by decide +kernel) rfl rfl ?_
        refine x_iadd (pc := 50) (show decode mX8_workAll.2.1 50 = .ok (.iadd, 1) by decide +kernel) ?_
        obtain ⟨hg, hR⟩ := hR
        refine x_iald (pc := 51) rfl (by decide) hg (show decode mX8_workAll.2.1 51 = .ok (.iaload, 1) by decide +kernel) ?_
        refine x_iadd (pc := 52) (show decode mX8_workAll.2.1 52 = .ok (.iadd, 1) by decide +kernel) ?_
        refine x_bipush (pc := 53) (n := 100) (show decode mX8_workAll.2.1 53 = .ok (.bipush 100, 2) by decide +kernel) rfl ?_
        refine x_aload_n (pc := 55) (show decode mX8_workAll.2.1 55 = .ok (.aload_n 0, 1) by decide +kernel) rfl rfl ?_
        refine x_getR (pc := 56) f8_11 rfl rfl (show decode mX8_workAll.2.1 56 = .ok (.getfield 11, 3) by decide +kernel) ?_
        refine x_iconst (pc := 59) (n := 5) (show decode mX8_workAll.2.1 59 = .ok (.iconst 5, 1) by decide +kernel) ?_
        refine x_iload_n (pc := 60) (show decode mX8_workAll.2.1 60 = .ok (.iload_n 2, 1) by decide +kernel) rfl rfl ?_
        refine x_iadd (pc := 61) (show decode mX8_workAll.2.1 61 = .ok (.iadd, 1) by decide +kernel) ?_
        obtain ⟨hg, hR⟩ := hR
        refine x_iald (pc := 62) rfl (by decide) hg (show decode mX8_workAll.2.1 62 = .ok (.iaload, 1) by decide +kernel) ?_
        refine x_imul (pc := 63) (show decode mX8_workAll.2.1 63 = .ok (.imul, 1) by decide +kernel) ?_
        refine x_aload_n (pc := 64) (show decode mX8_workAll.2.1 64 = .ok (.aload_n 0, 1) by decide +kernel) rfl rfl ?_
        refine x_getR (pc := 65) f8_11 rfl rfl (show decode mX8_workAll.2.1 65 = .ok (.getfield 11, 3) by decide +kernel) ?_
        refine x_bipush (pc := 68) (n := 35) (show decode mX8_workAll.2.1 68 = .ok (.bipush 35, 2) by decide +kernel) rfl ?_
        refine x_iload_n (pc := 70) (show decode mX8_workAll.2.1 70 = .ok (.iload_n 2, 1) by decide +kernel) rfl rfl ?_
        refine x_iadd (pc := 71) (show decode mX8_workAll.2.1 71 = .ok (.iadd, 1) by decide +kernel) ?_
        obtain ⟨hg, hR⟩ := hR
        refine x_iald (pc := 72) rfl (by decide) hg (show decode mX8_workAll.2.1 72 = .ok (.iaload, 1) by decide +kernel) ?_
        refine x_iadd (pc := 73) (show decode mX8_workAll.2.1 73 = .ok (.iadd, 1) by decide +kernel) ?_
        obtain ⟨hg, hR⟩ := hR
        refine x_icmp_ge (pc := 74) (tgt := 79) (show decode mX8_workAll.2.1 74 = .ok (.if_icmp .ge 5, 3) by decide +kernel) (by decide) ⟨hg.1, hg.2⟩ (fun hc => ?_) (fun hc => ?_)
        · replace hR := hR.1 hc
          refine x_iinc (pc := 79) (ls' := [some (.inr (.inr 0)), some (.inl x1), some (.inl x2), some (.inl (x3 + 1))]) (show decode mX8_workAll.2.1 79 = .ok (.iinc 3 1, 3) by decide +kernel) (by decide) rfl rfl ?_
          refine x_goto (pc := 82) (tgt := 10) (show decode mX8_workAll.2.1 82 = .ok (.goto (-72), 3) by decide +kernel) (by decide) ?_
          exact hR
        · replace hR := hR.2 hc
          refine x_iload_n (pc := 77) (show decode mX8_workAll.2.1 77 = .ok (.iload_n 3, 1) by decide +kernel) rfl rfl ?_
          refine x_istore_n (pc := 78) (ls' := [some (.inr (.inr 0)), some (.inl x1), some (.inl x3), some (.inl x3)]) (show decode mX8_workAll.2.1 78 = .ok (.istore_n 2, 1) by decide +kernel) rfl (by decide) rfl ?_
          refine x_iinc (pc := 79) (ls' := [some (.inr (.inr 0)), some (.inl x1), some (.inl x3), some (.inl (x3 + 1))]) (show decode mX8_workAll.2.1 79 = .ok (.iinc 3 1, 3) by decide +kernel) (by decide) rfl rfl ?_
          refine x_goto (pc := 82) (tgt := 10) (show decode mX8_workAll.2.1 82 = .ok (.goto (-72), 3) by decide +kernel) (by decide) ?_
          exact hR
    · show xG _ _ _ 25 _ [.inl 0] _ _
      refine x_if_eq (pc := 25) (tgt := 79) (show decode mX8_workAll.2.1 25 = .ok (.ifCond .eq 54, 3) by decide +kernel) (by decide) (by unfold inI; decide) (fun _ => ?_) (fun hc => absurd hc (by decide))
      refine x_iinc (pc := 79) (ls' := [some (.inr (.inr 0)), some (.inl x1), some (.inl x2), some (.inl (x3 + 1))]) (show decode mX8_workAll.2.1 79 = .ok (.iinc 3 1, 3) by decide +kernel) (by decide) rfl rfl ?_
      refine x_goto (pc := 82) (tgt := 10) (show decode mX8_workAll.2.1 82 = .ok (.goto (-72), 3) by decide +kernel) (by decide) ?_
      exact hR
set_option maxRecDepth 4000 in
theorem sg_X8_undo_0 {d : Nat} {h : xH} {Q : Int → xH → Prop}
    (hR : (inI (h 1 4)) ∧ (¬ (h 1 4) = 0 → (0 ≤ (205 + (50 * ((h 1 4) - 1))) ∧ (205 + (50 * ((h 1 4) - 1))) < 1705) ∧ (0 ≤ ((205 + (50 * ((h 1 4) - 1))) + 1) ∧ ((205 + (50 * ((h 1 4) - 1))) + 1) < 1705) ∧ (0 ≤ (95 + ((xu (xu h 1 4 ((h 1 4) - 1)) 1 3 ((xu h 1 4 ((h 1 4) - 1)) 1 (205 + (50 * ((h 1 4) - 1))))) 1 ((205 + (50 * ((h 1 4) - 1))) + 1))) ∧ (95 + ((xu (xu h 1 4 ((h 1 4) - 1)) 1 3 ((xu h 1 4 ((h 1 4) - 1)) 1 (205 + (50 * ((h 1 4) - 1))))) 1 ((205 + (50 * ((h 1 4) - 1))) + 1))) < 1705) ∧ gI wdM d mX8_undo 67 [some (.inr (.inr 0)), some (.inl (205 + (50 * ((h 1 4) - 1)))), some (.inl 0)] (xu (xu (xu h 1 4 ((h 1 4) - 1)) 1 3 ((xu h 1 4 ((h 1 4) - 1)) 1 (205 + (50 * ((h 1 4) - 1))))) 1 (95 + ((xu (xu h 1 4 ((h 1 4) - 1)) 1 3 ((xu h 1 4 ((h 1 4) - 1)) 1 (205 + (50 * ((h 1 4) - 1))))) 1 ((205 + (50 * ((h 1 4) - 1))) + 1))) 0) Q) ∧ ((h 1 4) = 0 → Q (-3) h)) :
    gI wdM d mX8_undo 0 [some (.inr (.inr 0)), none, none] h Q := by
  unfold gI
  refine x_aload_n (pc := 0) (show decode mX8_undo.2.1 0 = .ok (.aload_n 0, 1) by decide +kernel) rfl rfl ?_
  refine x_getR (pc := 1) f8_11 rfl rfl (show decode mX8_undo.2.1 1 = .ok (.getfield 11, 3) by decide +kernel) ?_
  refine x_iconst (pc := 4) (n := 4) (show decode mX8_undo.2.1 4 = .ok (.iconst 4, 1) by decide +kernel) ?_
  refine x_iald (pc := 5) rfl (by decide) (by decide) (show decode mX8_undo.2.1 5 = .ok (.iaload, 1) by decide +kernel) ?_
  obtain ⟨hg, hR⟩ := hR
  refine x_if_ne (pc := 6) (tgt := 12) (show decode mX8_undo.2.1 6 = .ok (.ifCond .ne 6, 3) by decide +kernel) (by decide) hg (fun hc => ?_) (fun hc => ?_)
  · replace hR := hR.1 hc
    refine x_aload_n (pc := 12) (show decode mX8_undo.2.1 12 = .ok (.aload_n 0, 1) by decide +kernel) rfl rfl ?_
    refine x_getR (pc := 13) f8_11 rfl rfl (show decode mX8_undo.2.1 13 = .ok (.getfield 11, 3) by decide +kernel) ?_
    refine x_iconst (pc := 16) (n := 4) (show decode mX8_undo.2.1 16 = .ok (.iconst 4, 1) by decide +kernel) ?_
    refine x_dup2 (pc := 17) (show decode mX8_undo.2.1 17 = .ok (.dup2, 1) by decide +kernel) rfl rfl ?_
    refine x_iald (pc := 18) rfl (by decide) (by decide) (show decode mX8_undo.2.1 18 = .ok (.iaload, 1) by decide +kernel) ?_
    refine x_iconst (pc := 19) (n := 1) (show decode mX8_undo.2.1 19 = .ok (.iconst 1, 1) by decide +kernel) ?_
    refine x_isub (pc := 20) (show decode mX8_undo.2.1 20 = .ok (.isub, 1) by decide +kernel) ?_
    refine x_iast (pc := 21) rfl (by decide) (by decide) (show decode mX8_undo.2.1 21 = .ok (.iastore, 1) by decide +kernel) ?_
    refine x_sipush (pc := 22) (n := 205) (show decode mX8_undo.2.1 22 = .ok (.sipush 205, 3) by decide +kernel) rfl ?_
    refine x_bipush (pc := 25) (n := 50) (show decode mX8_undo.2.1 25 = .ok (.bipush 50, 2) by decide +kernel) rfl ?_
    refine x_aload_n (pc := 27) (show decode mX8_undo.2.1 27 = .ok (.aload_n 0, 1) by decide +kernel) rfl rfl ?_
    refine x_getR (pc := 28) f8_11 rfl rfl (show decode mX8_undo.2.1 28 = .ok (.getfield 11, 3) by decide +kernel) ?_
    refine x_iconst (pc := 31) (n := 4) (show decode mX8_undo.2.1 31 = .ok (.iconst 4, 1) by decide +kernel) ?_
    refine x_iald (pc := 32) rfl (by decide) (by decide) (show decode mX8_undo.2.1 32 = .ok (.iaload, 1) by decide +kernel) ?_
    refine x_imul (pc := 33) (show decode mX8_undo.2.1 33 = .ok (.imul, 1) by decide +kernel) ?_
    refine x_iadd (pc := 34) (show decode mX8_undo.2.1 34 = .ok (.iadd, 1) by decide +kernel) ?_
    refine x_istore_n (pc := 35) (ls' := [some (.inr (.inr 0)), some (.inl (205 + (50 * ((h 1 4) - 1)))), none]) (show decode mX8_undo.2.1 35 = .ok (.istore_n 1, 1) by decide +kernel) rfl (by decide) rfl ?_
    refine x_aload_n (pc := 36) (show decode mX8_undo.2.1 36 = .ok (.aload_n 0, 1) by decide +kernel) rfl rfl ?_
    refine x_getR (pc := 37) f8_11 rfl rfl (show decode mX8_undo.2.1 37 = .ok (.getfield 11, 3) by decide +kernel) ?_
    refine x_iconst (pc := 40) (n := 3) (show decode mX8_undo.2.1 40 = .ok (.iconst 3, 1) by decide +kernel) ?_
    refine x_aload_n (pc := 41) (show decode mX8_undo.2.1 41 = .ok (.aload_n 0, 1) by decide +kernel) rfl rfl ?_
    refine x_getR (pc := 42) f8_11 rfl rfl (show decode mX8_undo.2.1 42 = .ok (.getfield 11, 3) by decide +kernel) ?_
    refine x_iload_n (pc := 45) (show decode mX8_undo.2.1 45 = .ok (.iload_n 1, 1) by decide +kernel) rfl rfl ?_
    obtain ⟨hg, hR⟩ := hR
    refine x_iald (pc := 46) rfl (by decide) hg (show decode mX8_undo.2.1 46 = .ok (.iaload, 1) by decide +kernel) ?_
    refine x_iast (pc := 47) rfl (by decide) (by decide) (show decode mX8_undo.2.1 47 = .ok (.iastore, 1) by decide +kernel) ?_
    refine x_aload_n (pc := 48) (show decode mX8_undo.2.1 48 = .ok (.aload_n 0, 1) by decide +kernel) rfl rfl ?_
    refine x_getR (pc := 49) f8_11 rfl rfl (show decode mX8_undo.2.1 49 = .ok (.getfield 11, 3) by decide +kernel) ?_
    refine x_bipush (pc := 52) (n := 95) (show decode mX8_undo.2.1 52 = .ok (.bipush 95, 2) by decide +kernel) rfl ?_
    refine x_aload_n (pc := 54) (show decode mX8_undo.2.1 54 = .ok (.aload_n 0, 1) by decide +kernel) rfl rfl ?_
    refine x_getR (pc := 55) f8_11 rfl rfl (show decode mX8_undo.2.1 55 = .ok (.getfield 11, 3) by decide +kernel) ?_
    refine x_iload_n (pc := 58) (show decode mX8_undo.2.1 58 = .ok (.iload_n 1, 1) by decide +kernel) rfl rfl ?_
    refine x_iconst (pc := 59) (n := 1) (show decode mX8_undo.2.1 59 = .ok (.iconst 1, 1) by decide +kernel) ?_
    refine x_iadd (pc := 60) (show decode mX8_undo.2.1 60 = .ok (.iadd, 1) by decide +kernel) ?_
    obtain ⟨hg, hR⟩ := hR
    refine x_iald (pc := 61) rfl (by decide) hg (show decode mX8_undo.2.1 61 = .ok (.iaload, 1) by decide +kernel) ?_
    refine x_iadd (pc := 62) (show decode mX8_undo.2.1 62 = .ok (.iadd, 1) by decide +kernel) ?_
    refine x_iconst (pc := 63) (n := 0) (show decode mX8_undo.2.1 63 = .ok (.iconst 0, 1) by decide +kernel) ?_
    obtain ⟨hg, hR⟩ := hR
    refine x_iast (pc := 64) rfl (by decide) hg (show decode mX8_undo.2.1 64 = .ok (.iastore, 1) by decide +kernel) ?_
    refine x_iconst (pc := 65) (n := 0) (show decode mX8_undo.2.1 65 = .ok (.iconst 0, 1) by decide +kernel) ?_
    refine x_istore_n (pc := 66) (ls' := [some (.inr (.inr 0)), some (.inl (205 + (50 * ((h 1 4) - 1)))), some (.inl 0)]) (show decode mX8_undo.2.1 66 = .ok (.istore_n 2, 1) by decide +kernel) rfl (by decide) rfl ?_
    exact hR
  · replace hR := hR.2 hc
    refine x_bipush (pc := 9) (n := (-3)) (show decode mX8_undo.2.1 9 = .ok (.bipush (-3), 2) by decide +kernel) rfl ?_
    exact x_iret (pc := 11) rfl (show decode mX8_undo.2.1 11 = .ok (.ireturn, 1) by decide +kernel) ⟨_, rfl, hR⟩
set_option maxRecDepth 4000 in
theorem sg_X8_undo_67 {d : Nat} {x1 x2 : Int} {h : xH} {Q : Int → xH → Prop}
    (hR : (inI x2) ∧ (48 ≤ x2 → Q (h 1 4) h) ∧ (x2 < 48 → (0 ≤ ((x1 + 2) + x2) ∧ ((x1 + 2) + x2) < 1705) ∧ (0 ≤ (157 + x2) ∧ (157 + x2) < 1705) ∧ gI wdM d mX8_undo 67 [some (.inr (.inr 0)), some (.inl x1), some (.inl (x2 + 1))] (xu h 1 (157 + x2) (h 1 ((x1 + 2) + x2))) Q)) :
    gI wdM d mX8_undo 67 [some (.inr (.inr 0)), some (.inl x1), some (.inl x2)] h Q := by
  unfold gI
  refine x_iload_n (pc := 67) (show decode mX8_undo.2.1 67 = .ok (.iload_n 2, 1) by decide +kernel) rfl rfl ?_
  refine x_bipush (pc := 68) (n := 48) (show decode mX8_undo.2.1 68 = .ok (.bipush 48, 2) by decide +kernel) rfl ?_
  obtain ⟨hg, hR⟩ := hR
  refine x_icmp_ge (pc := 70) (tgt := 99) (show decode mX8_undo.2.1 70 = .ok (.if_icmp .ge 29, 3) by decide +kernel) (by decide) ⟨hg, (by unfold inI; decide)⟩ (fun hc => ?_) (fun hc => ?_)
  · replace hR := hR.1 hc
    refine x_aload_n (pc := 99) (show decode mX8_undo.2.1 99 = .ok (.aload_n 0, 1) by decide +kernel) rfl rfl ?_
    refine x_getR (pc := 100) f8_11 rfl rfl (show decode mX8_undo.2.1 100 = .ok (.getfield 11, 3) by decide +kernel) ?_
    refine x_iconst (pc := 103) (n := 4) (show decode mX8_undo.2.1 103 = .ok (.iconst 4, 1) by decide +kernel) ?_
    refine x_iald (pc := 104) rfl (by decide) (by decide) (show decode mX8_undo.2.1 104 = .ok (.iaload, 1) by decide +kernel) ?_
    exact x_iret (pc := 105) rfl (show decode mX8_undo.2.1 105 = .ok (.ireturn, 1) by decide +kernel) ⟨_, rfl, hR⟩
  · replace hR := hR.2 hc
    refine x_aload_n (pc := 73) (show decode mX8_undo.2.1 73 = .ok (.aload_n 0, 1) by decide +kernel) rfl rfl ?_
    refine x_getR (pc := 74) f8_11 rfl rfl (show decode mX8_undo.2.1 74 = .ok (.getfield 11, 3) by decide +kernel) ?_
    refine x_sipush (pc := 77) (n := 157) (show decode mX8_undo.2.1 77 = .ok (.sipush 157, 3) by decide +kernel) rfl ?_
    refine x_iload_n (pc := 80) (show decode mX8_undo.2.1 80 = .ok (.iload_n 2, 1) by decide +kernel) rfl rfl ?_
    refine x_iadd (pc := 81) (show decode mX8_undo.2.1 81 = .ok (.iadd, 1) by decide +kernel) ?_
    refine x_aload_n (pc := 82) (show decode mX8_undo.2.1 82 = .ok (.aload_n 0, 1) by decide +kernel) rfl rfl ?_
    refine x_getR (pc := 83) f8_11 rfl rfl (show decode mX8_undo.2.1 83 = .ok (.getfield 11, 3) by decide +kernel) ?_
    refine x_iload_n (pc := 86) (show decode mX8_undo.2.1 86 = .ok (.iload_n 1, 1) by decide +kernel) rfl rfl ?_
    refine x_iconst (pc := 87) (n := 2) (show decode mX8_undo.2.1 87 = .ok (.iconst 2, 1) by decide +kernel) ?_
    refine x_iadd (pc := 88) (show decode mX8_undo.2.1 88 = .ok (.iadd, 1) by decide +kernel) ?_
    refine x_iload_n (pc := 89) (show decode mX8_undo.2.1 89 = .ok (.iload_n 2, 1) by decide +kernel) rfl rfl ?_
    refine x_iadd (pc := 90) (show decode mX8_undo.2.1 90 = .ok (.iadd, 1) by decide +kernel) ?_
    obtain ⟨hg, hR⟩ := hR
    refine x_iald (pc := 91) rfl (by decide) hg (show decode mX8_undo.2.1 91 = .ok (.iaload, 1) by decide +kernel) ?_
    obtain ⟨hg, hR⟩ := hR
    refine x_iast (pc := 92) rfl (by decide) hg (show decode mX8_undo.2.1 92 = .ok (.iastore, 1) by decide +kernel) ?_
    refine x_iinc (pc := 93) (ls' := [some (.inr (.inr 0)), some (.inl x1), some (.inl (x2 + 1))]) (show decode mX8_undo.2.1 93 = .ok (.iinc 2 1, 3) by decide +kernel) (by decide) rfl rfl ?_
    refine x_goto (pc := 96) (tgt := 67) (show decode mX8_undo.2.1 96 = .ok (.goto (-29), 3) by decide +kernel) (by decide) ?_
    exact hR
set_option maxRecDepth 4000 in
theorem sg_X8_thread_0 {d : Nat} {x1 x2 : Int} {h : xH} {Q : Int → xH → Prop} (hd : 1 ≤ d)
    (hR : cB wdM (d - 1) mX8_isSlot [.inr (.inr 0), .inl x1] h (fun h1 => inI x2 ∧ cB wdM (d - 1) mX8_isIn [.inr (.inl x2), .inr (.inl 0), .inr (.inl 1)] h1 (fun h2 => (0 ≤ ((157 + (2 * x1)) + x2) ∧ ((157 + (2 * x1)) + x2) < 1705) ∧ Q (h2 1 ((157 + (2 * x1)) + x2)) h2) (fun h2 => Q (-1) h2)) (fun h1 => Q (-1) h1)) :
    gI wdM d mX8_thread 0 [some (.inr (.inr 0)), some (.inl x1), some (.inl x2)] h Q := by
  unfold gI
  refine x_aload_n (pc := 0) (show decode mX8_thread.2.1 0 = .ok (.aload_n 0, 1) by decide +kernel) rfl rfl ?_
  refine x_iload_n (pc := 1) (show decode mX8_thread.2.1 1 = .ok (.iload_n 1, 1) by decide +kernel) rfl rfl ?_
  refine x_callV (pc := 2) (As := [.inl x1]) (rest := []) (lk8_103 rfl) im_X8_isSlot sl_X8_isSlot rfl rfl rfl (Nat.le_of_ble_eq_true rfl) (Nat.le_of_ble_eq_true rfl) (show decode mX8_thread.2.1 2 = .ok (.invokevirtual 103, 3) by decide +kernel) hd hR (fun r9 h1 hq => ?_)
  obtain ⟨r8, rfl, hq⟩ := hq
  rcases hq with ⟨rfl, hR⟩ | ⟨rfl, hR⟩
  · show xG _ _ _ 5 _ [.inl 1] _ _
    refine x_if_eq (pc := 5) (tgt := 35) (show decode mX8_thread.2.1 5 = .ok (.ifCond .eq 30, 3) by decide +kernel) (by decide) (by unfold inI; decide) (fun hc => absurd hc (by decide)) (fun _ => ?_)
    refine x_iload_n (pc := 8) (show decode mX8_thread.2.1 8 = .ok (.iload_n 2, 1) by decide +kernel) rfl rfl ?_
    obtain ⟨hg, hR⟩ := hR
    refine x_i2l (pc := 9) (show decode mX8_thread.2.1 9 = .ok (.i2l, 1) by decide +kernel) hg ?_
    refine x_lconst (pc := 10) (v := 0) (show decode mX8_thread.2.1 10 = .ok (.lconst 0, 1) by decide +kernel) rfl ?_
    refine x_lconst (pc := 11) (v := 1) (show decode mX8_thread.2.1 11 = .ok (.lconst 1, 1) by decide +kernel) rfl ?_
    refine x_callS (pc := 12) (As := [.inr (.inl x2), .inr (.inl 0), .inr (.inl 1)]) (rest := []) (lk8_79 rfl) sm_X8_isIn (Nat.le_of_ble_eq_true rfl) (Nat.le_of_ble_eq_true rfl) (show decode mX8_thread.2.1 12 = .ok (.invokestatic 79, 3) by decide +kernel) hd hR (fun r9 h2 hq => ?_)
    obtain ⟨r8, rfl, hq⟩ := hq
    rcases hq with ⟨rfl, hR⟩ | ⟨rfl, hR⟩
    · show xG _ _ _ 15 _ [.inl 1] _ _
      refine x_if_eq (pc := 15) (tgt := 35) (show decode mX8_thread.2.1 15 = .ok (.ifCond .eq 20, 3) by decide +kernel) (by decide) (by unfold inI; decide) (fun hc => absurd hc (by decide)) (fun _ => ?_)
      refine x_aload_n (pc := 18) (show decode mX8_thread.2.1 18 = .ok (.aload_n 0, 1) by decide +kernel) rfl rfl ?_
      refine x_getR (pc := 19) f8_11 rfl rfl (show decode mX8_thread.2.1 19 = .ok (.getfield 11, 3) by decide +kernel) ?_
      refine x_sipush (pc := 22) (n := 157) (show decode mX8_thread.2.1 22 = .ok (.sipush 157, 3) by decide +kernel) rfl ?_
      refine x_iconst (pc := 25) (n := 2) (show decode mX8_thread.2.1 25 = .ok (.iconst 2, 1) by decide +kernel) ?_
      refine x_iload_n (pc := 26) (show decode mX8_thread.2.1 26 = .ok (.iload_n 1, 1) by decide +kernel) rfl rfl ?_
      refine x_imul (pc := 27) (show decode mX8_thread.2.1 27 = .ok (.imul, 1) by decide +kernel) ?_
      refine x_iadd (pc := 28) (show decode mX8_thread.2.1 28 = .ok (.iadd, 1) by decide +kernel) ?_
      refine x_iload_n (pc := 29) (show decode mX8_thread.2.1 29 = .ok (.iload_n 2, 1) by decide +kernel) rfl rfl ?_
      refine x_iadd (pc := 30) (show decode mX8_thread.2.1 30 = .ok (.iadd, 1) by decide +kernel) ?_
      obtain ⟨hg, hR⟩ := hR
      refine x_iald (pc := 31) rfl (by decide) hg (show decode mX8_thread.2.1 31 = .ok (.iaload, 1) by decide +kernel) ?_
      refine x_goto (pc := 32) (tgt := 36) (show decode mX8_thread.2.1 32 = .ok (.goto 4, 3) by decide +kernel) (by decide) ?_
      exact x_iret (pc := 36) rfl (show decode mX8_thread.2.1 36 = .ok (.ireturn, 1) by decide +kernel) ⟨_, rfl, hR⟩
    · show xG _ _ _ 15 _ [.inl 0] _ _
      refine x_if_eq (pc := 15) (tgt := 35) (show decode mX8_thread.2.1 15 = .ok (.ifCond .eq 20, 3) by decide +kernel) (by decide) (by unfold inI; decide) (fun _ => ?_) (fun hc => absurd hc (by decide))
      refine x_iconst (pc := 35) (n := (-1)) (show decode mX8_thread.2.1 35 = .ok (.iconst (-1), 1) by decide +kernel) ?_
      exact x_iret (pc := 36) rfl (show decode mX8_thread.2.1 36 = .ok (.ireturn, 1) by decide +kernel) ⟨_, rfl, hR⟩
  · show xG _ _ _ 5 _ [.inl 0] _ _
    refine x_if_eq (pc := 5) (tgt := 35) (show decode mX8_thread.2.1 5 = .ok (.ifCond .eq 30, 3) by decide +kernel) (by decide) (by unfold inI; decide) (fun _ => ?_) (fun hc => absurd hc (by decide))
    refine x_iconst (pc := 35) (n := (-1)) (show decode mX8_thread.2.1 35 = .ok (.iconst (-1), 1) by decide +kernel) ?_
    exact x_iret (pc := 36) rfl (show decode mX8_thread.2.1 36 = .ok (.ireturn, 1) by decide +kernel) ⟨_, rfl, hR⟩
