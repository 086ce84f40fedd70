/-! segments: what a method does from one cut point to the next (written by wip/whole/seg.py) -/
set_option maxRecDepth 4000 in
theorem sg_X8_isThread_0 {d : Nat} {x1 : Int} {h : xH} {Q : Int → xH → Prop} (hd : 1 ≤ d)
    (hR : inI x1 ∧ inI ((2 * (h 1 0)) - 1) ∧ cI wdM (d - 1) mX8_isIn [.inr (.inl x1), .inr (.inl 0), .inr (.inl ((2 * (h 1 0)) - 1))] h (fun r2 h1 => (r2 = 0 ∨ r2 = 1) ∧ Q r2 h1)) :
    gI wdM d mX8_isThread 0 [some (.inr (.inr 0)), some (.inl x1)] h Q := by
  unfold gI
  refine x_iload_n (pc := 0) (show decode mX8_isThread.2.1 0 = .ok (.iload_n 1, 1) by decide +kernel) rfl rfl ?_
  obtain ⟨hg, hR⟩ := hR
  refine x_i2l (pc := 1) (show decode mX8_isThread.2.1 1 = .ok (.i2l, 1) by decide +kernel) hg ?_
  refine x_lconst (pc := 2) (v := 0) (show decode mX8_isThread.2.1 2 = .ok (.lconst 0, 1) by decide +kernel) rfl ?_
  refine x_iconst (pc := 3) (n := 2) (show decode mX8_isThread.2.1 3 = .ok (.iconst 2, 1) by decide +kernel) ?_
  refine x_aload_n (pc := 4) (show decode mX8_isThread.2.1 4 = .ok (.aload_n 0, 1) by decide +kernel) rfl rfl ?_
  refine x_getR (pc := 5) f8_11 rfl rfl (show decode mX8_isThread.2.1 5 = .ok (.getfield 11, 3) by decide +kernel) ?_
  refine x_iconst (pc := 8) (n := 0) (show decode mX8_isThread.2.1 8 = .ok (.iconst 0, 1) by decide +kernel) ?_
  refine x_iald (pc := 9) rfl (by decide) (by decide) (show decode mX8_isThread.2.1 9 = .ok (.iaload, 1) by decide +kernel) ?_
  refine x_imul (pc := 10) (show decode mX8_isThread.2.1 10 = .ok (.imul, 1) by decide +kernel) ?_
  refine x_iconst (pc := 11) (n := 1) (show decode mX8_isThread.2.1 11 = .ok (.iconst 1, 1) by decide +kernel) ?_
  refine x_isub (pc := 12) (show decode mX8_isThread.2.1 12 = .ok (.isub, 1) by decide +kernel) ?_
  obtain ⟨hg, hR⟩ := hR
  refine x_i2l (pc := 13) (show decode mX8_isThread.2.1 13 = .ok (.i2l, 1) by decide +kernel) hg ?_
  refine x_callS (pc := 14) (As := [.inr (.inl x1), .inr (.inl 0), .inr (.inl ((2 * (h 1 0)) - 1))]) (rest := []) (lk8_79 rfl) sm_X8_isIn (Nat.le_of_ble_eq_true rfl) (Nat.le_of_ble_eq_true rfl) (show decode mX8_isThread.2.1 14 = .ok (.invokestatic 79, 3) by decide +kernel) hd hR (fun r9 h1 hq => ?_)
  obtain ⟨r2, rfl, hR⟩ := hq
  show xG _ _ _ 17 _ [.inl r2] _ _
  exact x_zret (pc := 17) rfl (show decode mX8_isThread.2.1 17 = .ok (.ireturn, 1) by decide +kernel) hR.1 ⟨_, rfl, hR.2⟩
set_option maxRecDepth 4000 in
theorem sg_X8_where_0 {d : Nat} {x1 : Int} {h : xH} {Q : Int → xH → Prop} (hd : 1 ≤ d)
    (hR : cB wdM (d - 1) mX8_isThread [.inr (.inr 0), .inl x1] h (fun h1 => gI wdM d mX8_where 12 [some (.inr (.inr 0)), some (.inl x1), some (.inl 0)] h1 Q) (fun h1 => Q (-1) h1)) :
    gI wdM d mX8_where 0 [some (.inr (.inr 0)), some (.inl x1), none] h Q := by
  unfold gI
  refine x_aload_n (pc := 0) (show decode mX8_where.2.1 0 = .ok (.aload_n 0, 1) by decide +kernel) rfl rfl ?_
  refine x_iload_n (pc := 1) (show decode mX8_where.2.1 1 = .ok (.iload_n 1, 1) by decide +kernel) rfl rfl ?_
  refine x_callV (pc := 2) (As := [.inl x1]) (rest := []) (lk8_161 rfl) im_X8_isThread sl_X8_isThread rfl rfl rfl (Nat.le_of_ble_eq_true rfl) (Nat.le_of_ble_eq_true rfl) (show decode mX8_where.2.1 2 = .ok (.invokevirtual 161, 3) by decide +kernel) hd hR (fun r9 h1 hq => ?_)
  obtain ⟨r8, rfl, hq⟩ := hq
  rcases hq with ⟨rfl, hR⟩ | ⟨rfl, hR⟩
  · show xG _ _ _ 5 _ [.inl 1] _ _
    refine x_if_ne (pc := 5) (tgt := 10) (show decode mX8_where.2.1 5 = .ok (.ifCond .ne 5, 3) by decide +kernel) (by decide) (by unfold inI; decide) (fun _ => ?_) (fun hc => absurd hc (by decide))
    refine x_iconst (pc := 10) (n := 0) (show decode mX8_where.2.1 10 = .ok (.iconst 0, 1) by decide +kernel) ?_
    refine x_istore_n (pc := 11) (ls' := [some (.inr (.inr 0)), some (.inl x1), some (.inl 0)]) (show decode mX8_where.2.1 11 = .ok (.istore_n 2, 1) by decide +kernel) rfl (by decide) rfl ?_
    exact hR
  · show xG _ _ _ 5 _ [.inl 0] _ _
    refine x_if_ne (pc := 5) (tgt := 10) (show decode mX8_where.2.1 5 = .ok (.ifCond .ne 5, 3) by decide +kernel) (by decide) (by unfold inI; decide) (fun hc => absurd hc (by decide)) (fun _ => ?_)
    refine x_iconst (pc := 8) (n := (-1)) (show decode mX8_where.2.1 8 = .ok (.iconst (-1), 1) by decide +kernel) ?_
    exact x_iret (pc := 9) rfl (show decode mX8_where.2.1 9 = .ok (.ireturn, 1) by decide +kernel) ⟨_, rfl, hR⟩
set_option maxRecDepth 4000 in
theorem sg_X8_where_12 {d : Nat} {x1 x2 : Int} {h : xH} {Q : Int → xH → Prop}
    (hR : (0 ≤ (157 + x2) ∧ (157 + x2) < 1705) ∧ (inI (h 1 (157 + x2)) ∧ inI x1) ∧ ((h 1 (157 + x2)) = x1 → Q x2 h) ∧ (¬ (h 1 (157 + x2)) = x1 → gI wdM d mX8_where 12 [some (.inr (.inr 0)), some (.inl x1), some (.inl (x2 + 1))] h Q)) :
    gI wdM d mX8_where 12 [some (.inr (.inr 0)), some (.inl x1), some (.inl x2)] h Q := by
  unfold gI
  refine x_aload_n (pc := 12) (show decode mX8_where.2.1 12 = .ok (.aload_n 0, 1) by decide +kernel) rfl rfl ?_
  refine x_getR (pc := 13) f8_11 rfl rfl (show decode mX8_where.2.1 13 = .ok (.getfield 11, 3) by decide +kernel) ?_
  refine x_sipush (pc := 16) (n := 157) (show decode mX8_where.2.1 16 = .ok (.sipush 157, 3) by decide +kernel) rfl ?_
  refine x_iload_n (pc := 19) (show decode mX8_where.2.1 19 = .ok (.iload_n 2, 1) by decide +kernel) rfl rfl ?_
  refine x_iadd (pc := 20) (show decode mX8_where.2.1 20 = .ok (.iadd, 1) by decide +kernel) ?_
  obtain ⟨hg, hR⟩ := hR
  refine x_iald (pc := 21) rfl (by decide) hg (show decode mX8_where.2.1 21 = .ok (.iaload, 1) by decide +kernel) ?_
  refine x_iload_n (pc := 22) (show decode mX8_where.2.1 22 = .ok (.iload_n 1, 1) by decide +kernel) rfl rfl ?_
  obtain ⟨hg, hR⟩ := hR
  refine x_icmp_eq (pc := 23) (tgt := 32) (show decode mX8_where.2.1 23 = .ok (.if_icmp .eq 9, 3) by decide +kernel) (by decide) ⟨hg.1, hg.2⟩ (fun hc => ?_) (fun hc => ?_)
  · replace hR := hR.1 hc
    refine x_iload_n (pc := 32) (show decode mX8_where.2.1 32 = .ok (.iload_n 2, 1) by decide +kernel) rfl rfl ?_
    exact x_iret (pc := 33) rfl (show decode mX8_where.2.1 33 = .ok (.ireturn, 1) by decide +kernel) ⟨_, rfl, hR⟩
  · replace hR := hR.2 hc
    refine x_iinc (pc := 26) (ls' := [some (.inr (.inr 0)), some (.inl x1), some (.inl (x2 + 1))]) (show decode mX8_where.2.1 26 = .ok (.iinc 2 1, 3) by decide +kernel) (by decide) rfl rfl ?_
    refine x_goto (pc := 29) (tgt := 12) (show decode mX8_where.2.1 29 = .ok (.goto (-17), 3) by decide +kernel) (by decide) ?_
    exact hR
set_option maxRecDepth 4000 in
theorem sg_X8_overs_0 {d : Nat} {x1 : Int} {h : xH} {Q : Int → xH → Prop} (hd : 1 ≤ d)
    (hR : cB wdM (d - 1) mX8_isThread [.inr (.inr 0), .inl x1] h (fun h1 => (0 ≤ (181 + x1) ∧ (181 + x1) < 1705) ∧ Q (h1 1 (181 + x1)) h1) (fun h1 => Q (-1) h1)) :
    gI wdM d mX8_overs 0 [some (.inr (.inr 0)), some (.inl x1)] h Q := by
  unfold gI
  refine x_aload_n (pc := 0) (show decode mX8_overs.2.1 0 = .ok (.aload_n 0, 1) by decide +kernel) rfl rfl ?_
  refine x_iload_n (pc := 1) (show decode mX8_overs.2.1 1 = .ok (.iload_n 1, 1) by decide +kernel) rfl rfl ?_
  refine x_callV (pc := 2) (As := [.inl x1]) (rest := []) (lk8_161 rfl) im_X8_isThread sl_X8_isThread rfl rfl rfl (Nat.le_of_ble_eq_true rfl) (Nat.le_of_ble_eq_true rfl) (show decode mX8_overs.2.1 2 = .ok (.invokevirtual 161, 3) by decide +kernel) hd hR (fun r9 h1 hq => ?_)
  obtain ⟨r8, rfl, hq⟩ := hq
  rcases hq with ⟨rfl, hR⟩ | ⟨rfl, hR⟩
  · show xG _ _ _ 5 _ [.inl 1] _ _
    refine x_if_eq (pc := 5) (tgt := 21) (show decode mX8_overs.2.1 5 = .ok (.ifCond .eq 16, 3) by decide +kernel) (by decide) (by unfold inI; decide) (fun hc => absurd hc (by decide)) (fun _ => ?_)
    refine x_aload_n (pc := 8) (show decode mX8_overs.2.1 8 = .ok (.aload_n 0, 1) by decide +kernel) rfl rfl ?_
    refine x_getR (pc := 9) f8_11 rfl rfl (show decode mX8_overs.2.1 9 = .ok (.getfield 11, 3) by decide +kernel) ?_
    refine x_sipush (pc := 12) (n := 181) (show decode mX8_overs.2.1 12 = .ok (.sipush 181, 3) by decide +kernel) rfl ?_
    refine x_iload_n (pc := 15) (show decode mX8_overs.2.1 15 = .ok (.iload_n 1, 1) by decide +kernel) rfl rfl ?_
    refine x_iadd (pc := 16) (show decode mX8_overs.2.1 16 = .ok (.iadd, 1) by decide +kernel) ?_
    obtain ⟨hg, hR⟩ := hR
    refine x_iald (pc := 17) rfl (by decide) hg (show decode mX8_overs.2.1 17 = .ok (.iaload, 1) by decide +kernel) ?_
    refine x_goto (pc := 18) (tgt := 22) (show decode mX8_overs.2.1 18 = .ok (.goto 4, 3) by decide +kernel) (by decide) ?_
    exact x_iret (pc := 22) rfl (show decode mX8_overs.2.1 22 = .ok (.ireturn, 1) by decide +kernel) ⟨_, rfl, hR⟩
  · show xG _ _ _ 5 _ [.inl 0] _ _
    refine x_if_eq (pc := 5) (tgt := 21) (show decode mX8_overs.2.1 5 = .ok (.ifCond .eq 16, 3) by decide +kernel) (by decide) (by unfold inI; decide) (fun _ => ?_) (fun hc => absurd hc (by decide))
    refine x_iconst (pc := 21) (n := (-1)) (show decode mX8_overs.2.1 21 = .ok (.iconst (-1), 1) by decide +kernel) ?_
    exact x_iret (pc := 22) rfl (show decode mX8_overs.2.1 22 = .ok (.ireturn, 1) by decide +kernel) ⟨_, rfl, hR⟩
set_option maxRecDepth 4000 in
theorem sg_X8_acts_0 {d : Nat} {x1 : Int} {h : xH} {Q : Int → xH → Prop} (hd : 1 ≤ d)
    (hR : inI x1 ∧ cB wdM (d - 1) mX8_isIn [.inr (.inl x1), .inr (.inl 0), .inr (.inl 1)] h (fun h1 => gI wdM d mX8_acts 16 [some (.inr (.inr 0)), some (.inl x1), some (.inl 0), some (.inl 0), none] h1 Q) (fun h1 => Q (-1) h1)) :
    gI wdM d mX8_acts 0 [some (.inr (.inr 0)), some (.inl x1), none, none, none] h Q := by
  unfold gI
  refine x_iload_n (pc := 0) (show decode mX8_acts.2.1 0 = .ok (.iload_n 1, 1) by decide +kernel) rfl rfl ?_
  obtain ⟨hg, hR⟩ := hR
  refine x_i2l (pc := 1) (show decode mX8_acts.2.1 1 = .ok (.i2l, 1) by decide +kernel) hg ?_
  refine x_lconst (pc := 2) (v := 0) (show decode mX8_acts.2.1 2 = .ok (.lconst 0, 1) by decide +kernel) rfl ?_
  refine x_lconst (pc := 3) (v := 1) (show decode mX8_acts.2.1 3 = .ok (.lconst 1, 1) by decide +kernel) rfl ?_
  refine x_callS (pc := 4) (As := [.inr (.inl x1), .inr (.inl 0), .inr (.inl 1)]) (rest := []) (lk8_79 rfl) sm_X8_isIn (Nat.le_of_ble_eq_true rfl) (Nat.le_of_ble_eq_true rfl) (show decode mX8_acts.2.1 4 = .ok (.invokestatic 79, 3) by decide +kernel) hd hR (fun r9 h1 hq => ?_)
  obtain ⟨r8, rfl, hq⟩ := hq
  rcases hq with ⟨rfl, hR⟩ | ⟨rfl, hR⟩
  · show xG _ _ _ 7 _ [.inl 1] _ _
    refine x_if_ne (pc := 7) (tgt := 12) (show decode mX8_acts.2.1 7 = .ok (.ifCond .ne 5, 3) by decide +kernel) (by decide) (by unfold inI; decide) (fun _ => ?_) (fun hc => absurd hc (by decide))
    refine x_iconst (pc := 12) (n := 0) (show decode mX8_acts.2.1 12 = .ok (.iconst 0, 1) by decide +kernel) ?_
    refine x_istore_n (pc := 13) (ls' := [some (.inr (.inr 0)), some (.inl x1), some (.inl 0), none, none]) (show decode mX8_acts.2.1 13 = .ok (.istore_n 2, 1) by decide +kernel) rfl (by decide) rfl ?_
    refine x_iconst (pc := 14) (n := 0) (show decode mX8_acts.2.1 14 = .ok (.iconst 0, 1) by decide +kernel) ?_
    refine x_istore_n (pc := 15) (ls' := [some (.inr (.inr 0)), some (.inl x1), some (.inl 0), some (.inl 0), none]) (show decode mX8_acts.2.1 15 = .ok (.istore_n 3, 1) by decide +kernel) rfl (by decide) rfl ?_
    exact hR
  · show xG _ _ _ 7 _ [.inl 0] _ _
    refine x_if_ne (pc := 7) (tgt := 12) (show decode mX8_acts.2.1 7 = .ok (.ifCond .ne 5, 3) by decide +kernel) (by decide) (by unfold inI; decide) (fun hc => absurd hc (by decide)) (fun _ => ?_)
    refine x_iconst (pc := 10) (n := (-1)) (show decode mX8_acts.2.1 10 = .ok (.iconst (-1), 1) by decide +kernel) ?_
    exact x_iret (pc := 11) rfl (show decode mX8_acts.2.1 11 = .ok (.ireturn, 1) by decide +kernel) ⟨_, rfl, hR⟩
set_option maxRecDepth 4000 in
theorem sg_X8_acts_16 {d : Nat} {x1 x2 x3 : Int} {h : xH} {Q : Int → xH → Prop}
    (hR : (inI x3 ∧ inI (h 1 1)) ∧ ((h 1 1) ≤ x3 → Q x2 h) ∧ (x3 < (h 1 1) → (0 ≤ (95 + x3) ∧ (95 + x3) < 1705) ∧ (inI (h 1 (95 + x3))) ∧ (¬ (h 1 (95 + x3)) = 0 → (0 ≤ (65 + x3) ∧ (65 + x3) < 1705) ∧ (inI x1) ∧ (¬ x1 = 0 → (inI (h 1 (65 + x3))) ∧ (¬ (h 1 (65 + x3)) = 0 → (inI (h 1 (65 + x3))) ∧ (¬ (h 1 (65 + x3)) = 4 → gI wdM d mX8_acts 16 [some (.inr (.inr 0)), some (.inl x1), some (.inl (x2 + 1)), some (.inl (x3 + 1)), none] h Q) ∧ ((h 1 (65 + x3)) = 4 → gI wdM d mX8_acts 16 [some (.inr (.inr 0)), some (.inl x1), some (.inl (x2 + 2)), some (.inl (x3 + 1)), none] h Q)) ∧ ((h 1 (65 + x3)) = 0 → gI wdM d mX8_acts 16 [some (.inr (.inr 0)), some (.inl x1), some (.inl (x2 + 0)), some (.inl (x3 + 1)), none] h Q)) ∧ (x1 = 0 → (inI (h 1 (65 + x3))) ∧ (¬ (h 1 (65 + x3)) = 1 → (inI (h 1 (65 + x3))) ∧ ((h 1 (65 + x3)) ≤ 2 → gI wdM d mX8_acts 16 [some (.inr (.inr 0)), some (.inl x1), some (.inl (x2 + 1)), some (.inl (x3 + 1)), none] h Q) ∧ (2 < (h 1 (65 + x3)) → gI wdM d mX8_acts 16 [some (.inr (.inr 0)), some (.inl x1), some (.inl (x2 + 2)), some (.inl (x3 + 1)), none] h Q)) ∧ ((h 1 (65 + x3)) = 1 → gI wdM d mX8_acts 16 [some (.inr (.inr 0)), some (.inl x1), some (.inl (x2 + 0)), some (.inl (x3 + 1)), none] h Q))) ∧ ((h 1 (95 + x3)) = 0 → gI wdM d mX8_acts 16 [some (.inr (.inr 0)), some (.inl x1), some (.inl x2), some (.inl (x3 + 1)), none] h Q))) :
    gI wdM d mX8_acts 16 [some (.inr (.inr 0)), some (.inl x1), some (.inl x2), some (.inl x3), none] h Q := by
  unfold gI
  refine x_iload_n (pc := 16) (show decode mX8_acts.2.1 16 = .ok (.iload_n 3, 1) by decide +kernel) rfl rfl ?_
  refine x_aload_n (pc := 17) (show decode mX8_acts.2.1 17 = .ok (.aload_n 0, 1) by decide +kernel) rfl rfl ?_
  refine x_getR (pc := 18) f8_11 rfl rfl (show decode mX8_acts.2.1 18 = .ok (.getfield 11, 3) by decide +kernel) ?_
  refine x_iconst (pc := 21) (n := 1) (show decode mX8_acts.2.1 21 = .ok (.iconst 1, 1) by decide +kernel) ?_
  refine x_iald (pc := 22) rfl (by decide) (by decide) (show decode mX8_acts.2.1 22 = .ok (.iaload, 1) by decide +kernel) ?_
  obtain ⟨hg, hR⟩ := hR
  refine x_icmp_ge (pc := 23) (tgt := 109) (show decode mX8_acts.2.1 23 = .ok (.if_icmp .ge 86, 3) by decide +kernel) (by decide) ⟨hg.1, hg.2⟩ (fun hc => ?_) (fun hc => ?_)
  · replace hR := hR.1 hc
    refine x_iload_n (pc := 109) (show decode mX8_acts.2.1 109 = .ok (.iload_n 2, 1) by decide +kernel) rfl rfl ?_
    exact x_iret (pc := 110) rfl (show decode mX8_acts.2.1 110 = .ok (.ireturn, 1) by decide +kernel) ⟨_, rfl, hR⟩
  · replace hR := hR.2 hc
    refine x_aload_n (pc := 26) (show decode mX8_acts.2.1 26 = .ok (.aload_n 0, 1) by decide +kernel) rfl rfl ?_
    refine x_getR (pc := 27) f8_11 rfl rfl (show decode mX8_acts.2.1 27 = .ok (.getfield 11, 3) by decide +kernel) ?_
    refine x_bipush (pc := 30) (n := 95) (show decode mX8_acts.2.1 30 = .ok (.bipush 95, 2) by decide +kernel) rfl ?_
    refine x_iload_n (pc := 32) (show decode mX8_acts.2.1 32 = .ok (.iload_n 3, 1) by decide +kernel) rfl rfl ?_
    refine x_iadd (pc := 33) (show decode mX8_acts.2.1 33 = .ok (.iadd, 1) by decide +kernel) ?_
    obtain ⟨hg, hR⟩ := hR
    refine x_iald (pc := 34) rfl (by decide) hg (show decode mX8_acts.2.1 34 = .ok (.iaload, 1) by decide +kernel) ?_
    obtain ⟨hg, hR⟩ := hR
    refine x_if_ne (pc := 35) (tgt := 41) (show decode mX8_acts.2.1 35 = .ok (.ifCond .ne 6, 3) by decide +kernel) (by decide) hg (fun hc => ?_) (fun hc => ?_)
    · replace hR := hR.1 hc
      refine x_aload_n (pc := 41) (show decode mX8_acts.2.1 41 = .ok (.aload_n 0, 1) by decide +kernel) rfl rfl ?_
      refine x_getR (pc := 42) f8_11 rfl rfl (show decode mX8_acts.2.1 42 = .ok (.getfield 11, 3) by decide +kernel) ?_
      refine x_bipush (pc := 45) (n := 65) (show decode mX8_acts.2.1 45 = .ok (.bipush 65, 2) by decide +kernel) rfl ?_
      refine x_iload_n (pc := 47) (show decode mX8_acts.2.1 47 = .ok (.iload_n 3, 1) by decide +kernel) rfl rfl ?_
      refine x_iadd (pc := 48) (show decode mX8_acts.2.1 48 = .ok (.iadd, 1) by decide +kernel) ?_
      obtain ⟨hg, hR⟩ := hR
      refine x_iald (pc := 49) rfl (by decide) hg (show decode mX8_acts.2.1 49 = .ok (.iaload, 1) by decide +kernel) ?_
      refine x_istore (pc := 50) (ls' := [some (.inr (.inr 0)), some (.inl x1), some (.inl x2), some (.inl x3), some (.inl (h 1 (65 + x3)))]) (show decode mX8_acts.2.1 50 = .ok (.istore 4, 2) by decide +kernel) (by decide) rfl ?_
      refine x_iload_n (pc := 52) (show decode mX8_acts.2.1 52 = .ok (.iload_n 2, 1) by decide +kernel) rfl rfl ?_
      refine x_iload_n (pc := 53) (show decode mX8_acts.2.1 53 = .ok (.iload_n 1, 1) by decide +kernel) rfl rfl ?_
      obtain ⟨hg, hR⟩ := hR
      refine x_if_ne (pc := 54) (tgt := 81) (show decode mX8_acts.2.1 54 = .ok (.ifCond .ne 27, 3) by decide +kernel) (by decide) hg (fun hc => ?_) (fun hc => ?_)
      · replace hR := hR.1 hc
        refine x_iload (pc := 81) (show decode mX8_acts.2.1 81 = .ok (.iload 4, 2) by decide +kernel) rfl ?_
        obtain ⟨hg, hR⟩ := hR
        refine x_if_ne (pc := 83) (tgt := 90) (show decode mX8_acts.2.1 83 = .ok (.ifCond .ne 7, 3) by decide +kernel) (by decide) hg (fun hc => ?_) (fun hc => ?_)
        · replace hR := hR.1 hc
          refine x_iload (pc := 90) (show decode mX8_acts.2.1 90 = .ok (.iload 4, 2) by decide +kernel) rfl ?_
          refine x_iconst (pc := 92) (n := 4) (show decode mX8_acts.2.1 92 = .ok (.iconst 4, 1) by decide +kernel) ?_
          obtain ⟨hg, hR⟩ := hR
          refine x_icmp_ne (pc := 93) (tgt := 100) (show decode mX8_acts.2.1 93 = .ok (.if_icmp .ne 7, 3) by decide +kernel) (by decide) ⟨hg, (by unfold inI; decide)⟩ (fun hc => ?_) (fun hc => ?_)
          · replace hR := hR.1 hc
            refine x_iconst (pc := 100) (n := 1) (show decode mX8_acts.2.1 100 = .ok (.iconst 1, 1) by decide +kernel) ?_
            refine x_iadd (pc := 101) (show decode mX8_acts.2.1 101 = .ok (.iadd, 1) by decide +kernel) ?_
            refine x_istore_n (pc := 102) (ls' := [some (.inr (.inr 0)), some (.inl x1), some (.inl (x2 + 1)), some (.inl x3), some (.inl (h 1 (65 + x3)))]) (show decode mX8_acts.2.1 102 = .ok (.istore_n 2, 1) by decide +kernel) rfl (by decide) rfl ?_
            refine x_iinc (pc := 103) (ls' := [some (.inr (.inr 0)), some (.inl x1), some (.inl (x2 + 1)), some (.inl (x3 + 1)), some (.inl (h 1 (65 + x3)))]) (show decode mX8_acts.2.1 103 = .ok (.iinc 3 1, 3) by decide +kernel) (by decide) rfl rfl ?_
            refine x_goto (pc := 106) (tgt := 16) (show decode mX8_acts.2.1 106 = .ok (.goto (-90), 3) by decide +kernel) (by decide) ?_
            exact x_weak (xle_get (by repeat' constructor)) hR
          · replace hR := hR.2 hc
            refine x_iconst (pc := 96) (n := 2) (show decode mX8_acts.2.1 96 = .ok (.iconst 2, 1) by decide +kernel) ?_
            refine x_goto (pc := 97) (tgt := 101) (show decode mX8_acts.2.1 97 = .ok (.goto 4, 3) by decide +kernel) (by decide) ?_
            refine x_iadd (pc := 101) (show decode mX8_acts.2.1 101 = .ok (.iadd, 1) by decide +kernel) ?_
            refine x_istore_n (pc := 102) (ls' := [some (.inr (.inr 0)), some (.inl x1), some (.inl (x2 + 2)), some (.inl x3), some (.inl (h 1 (65 + x3)))]) (show decode mX8_acts.2.1 102 = .ok (.istore_n 2, 1) by decide +kernel) rfl (by decide) rfl ?_
            refine x_iinc (pc := 103) (ls' := [some (.inr (.inr 0)), some (.inl x1), some (.inl (x2 + 2)), some (.inl (x3 + 1)), some (.inl (h 1 (65 + x3)))]) (show decode mX8_acts.2.1 103 = .ok (.iinc 3 1, 3) by decide +kernel) (by decide) rfl rfl ?_
            refine x_goto (pc := 106) (tgt := 16) (show decode mX8_acts.2.1 106 = .ok (.goto (-90), 3) by decide +kernel) (by decide) ?_
            exact x_weak (xle_get (by repeat' constructor)) hR
        · replace hR := hR.2 hc
          refine x_iconst (pc := 86) (n := 0) (show decode mX8_acts.2.1 86 = .ok (.iconst 0, 1) by decide +kernel) ?_
          refine x_goto (pc := 87) (tgt := 101) (show decode mX8_acts.2.1 87 = .ok (.goto 14, 3) by decide +kernel) (by decide) ?_
          refine x_iadd (pc := 101) (show decode mX8_acts.2.1 101 = .ok (.iadd, 1) by decide +kernel) ?_
          refine x_istore_n (pc := 102) (ls' := [some (.inr (.inr 0)), some (.inl x1), some (.inl (x2 + 0)), some (.inl x3), some (.inl (h 1 (65 + x3)))]) (show decode mX8_acts.2.1 102 = .ok (.istore_n 2, 1) by decide +kernel) rfl (by decide) rfl ?_
          refine x_iinc (pc := 103) (ls' := [some (.inr (.inr 0)), some (.inl x1), some (.inl (x2 + 0)), some (.inl (x3 + 1)), some (.inl (h 1 (65 + x3)))]) (show decode mX8_acts.2.1 103 = .ok (.iinc 3 1, 3) by decide +kernel) (by decide) rfl rfl ?_
          refine x_goto (pc := 106) (tgt := 16) (show decode mX8_acts.2.1 106 = .ok (.goto (-90), 3) by decide +kernel) (by decide) ?_
          exact x_weak (xle_get (by repeat' constructor)) hR
      · replace hR := hR.2 hc
        refine x_iload (pc := 57) (show decode mX8_acts.2.1 57 = .ok (.iload 4, 2) by decide +kernel) rfl ?_
        refine x_iconst (pc := 59) (n := 1) (show decode mX8_acts.2.1 59 = .ok (.iconst 1, 1) by decide +kernel) ?_
        obtain ⟨hg, hR⟩ := hR
        refine x_icmp_ne (pc := 60) (tgt := 67) (show decode mX8_acts.2.1 60 = .ok (.if_icmp .ne 7, 3) by decide +kernel) (by decide) ⟨hg, (by unfold inI; decide)⟩ (fun hc => ?_) (fun hc => ?_)
        · replace hR := hR.1 hc
          refine x_iload (pc := 67) (show decode mX8_acts.2.1 67 = .ok (.iload 4, 2) by decide +kernel) rfl ?_
          refine x_iconst (pc := 69) (n := 2) (show decode mX8_acts.2.1 69 = .ok (.iconst 2, 1) by decide +kernel) ?_
          obtain ⟨hg, hR⟩ := hR
          refine x_icmp_le (pc := 70) (tgt := 77) (show decode mX8_acts.2.1 70 = .ok (.if_icmp .le 7, 3) by decide +kernel) (by decide) ⟨hg, (by unfold inI; decide)⟩ (fun hc => ?_) (fun hc => ?_)
          · replace hR := hR.1 hc
            refine x_iconst (pc := 77) (n := 1) (show decode mX8_acts.2.1 77 = .ok (.iconst 1, 1) by decide +kernel) ?_
            refine x_goto (pc := 78) (tgt := 101) (show decode mX8_acts.2.1 78 = .ok (.goto 23, 3) by decide +kernel) (by decide) ?_
            refine x_iadd (pc := 101) (show decode mX8_acts.2.1 101 = .ok (.iadd, 1) by decide +kernel) ?_
            refine x_istore_n (pc := 102) (ls' := [some (.inr (.inr 0)), some (.inl x1), some (.inl (x2 + 1)), some (.inl x3), some (.inl (h 1 (65 + x3)))]) (show decode mX8_acts.2.1 102 = .ok (.istore_n 2, 1) by decide +kernel) rfl (by decide) rfl ?_
            refine x_iinc (pc := 103) (ls' := [some (.inr (.inr 0)), some (.inl x1), some (.inl (x2 + 1)), some (.inl (x3 + 1)), some (.inl (h 1 (65 + x3)))]) (show decode mX8_acts.2.1 103 = .ok (.iinc 3 1, 3) by decide +kernel) (by decide) rfl rfl ?_
            refine x_goto (pc := 106) (tgt := 16) (show decode mX8_acts.2.1 106 = .ok (.goto (-90), 3) by decide +kernel) (by decide) ?_
            exact x_weak (xle_get (by repeat' constructor)) hR
          · replace hR := hR.2 hc
            refine x_iconst (pc := 73) (n := 2) (show decode mX8_acts.2.1 73 = .ok (.iconst 2, 1) by decide +kernel) ?_
            refine x_goto (pc := 74) (tgt := 101) (show decode mX8_acts.2.1 74 = .ok (.goto 27, 3) by decide +kernel) (by decide) ?_
            refine x_iadd (pc := 101) (show decode mX8_acts.2.1 101 = .ok (.iadd, 1) by decide +kernel) ?_
            refine x_istore_n (pc := 102) (ls' := [some (.inr (.inr 0)), some (.inl x1), some (.inl (x2 + 2)), some (.inl x3), some (.inl (h 1 (65 + x3)))]) (show decode mX8_acts.2.1 102 = .ok (.istore_n 2, 1) by decide +kernel) rfl (by decide) rfl ?_
            refine x_iinc (pc := 103) (ls' := [some (.inr (.inr 0)), some (.inl x1), some (.inl (x2 + 2)), some (.inl (x3 + 1)), some (.inl (h 1 (65 + x3)))]) (show decode mX8_acts.2.1 103 = .ok (.iinc 3 1, 3) by decide +kernel) (by decide) rfl rfl ?_
            refine x_goto (pc := 106) (tgt := 16) (show decode mX8_acts.2.1 106 = .ok (.goto (-90), 3) by decide +kernel) (by decide) ?_
            exact x_weak (xle_get (by repeat' constructor)) hR
        · replace hR := hR.2 hc
          refine x_iconst (pc := 63) (n := 0) (show decode mX8_acts.2.1 63 = .ok (.iconst 0, 1) by decide +kernel) ?_
          refine x_goto (pc := 64) (tgt := 101) (show decode mX8_acts.2.1 64 = .ok (.goto 37, 3) by decide +kernel) (by decide) ?_
          refine x_iadd (pc := 101) (show decode mX8_acts.2.1 101 = .ok (.iadd, 1) by decide +kernel) ?_
          refine x_istore_n (pc := 102) (ls' := [some (.inr (.inr 0)), some (.inl x1), some (.inl (x2 + 0)), some (.inl x3), some (.inl (h 1 (65 + x3)))]) (show decode mX8_acts.2.1 102 = .ok (.istore_n 2, 1) by decide +kernel) rfl (by decide) rfl ?_
          refine x_iinc (pc := 103) (ls' := [some (.inr (.inr 0)), some (.inl x1), some (.inl (x2 + 0)), some (.inl (x3 + 1)), some (.inl (h 1 (65 + x3)))]) (show decode mX8_acts.2.1 103 = .ok (.iinc 3 1, 3) by decide +kernel) (by decide) rfl rfl ?_
          refine x_goto (pc := 106) (tgt := 16) (show decode mX8_acts.2.1 106 = .ok (.goto (-90), 3) by decide +kernel) (by decide) ?_
          exact x_weak (xle_get (by repeat' constructor)) hR
    · replace hR := hR.2 hc
      refine x_goto (pc := 38) (tgt := 103) (show decode mX8_acts.2.1 38 = .ok (.goto 65, 3) by decide +kernel) (by decide) ?_
      refine x_iinc (pc := 103) (ls' := [some (.inr (.inr 0)), some (.inl x1), some (.inl x2), some (.inl (x3 + 1)), none]) (show decode mX8_acts.2.1 103 = .ok (.iinc 3 1, 3) by decide +kernel) (by decide) rfl rfl ?_
      refine x_goto (pc := 106) (tgt := 16) (show decode mX8_acts.2.1 106 = .ok (.goto (-90), 3) by decide +kernel) (by decide) ?_
      exact hR
set_option maxRecDepth 4000 in
theorem sg_X8_hand_0 {d : Nat} {x1 : Int} {h : xH} {Q : Int → xH → Prop} (hd : 1 ≤ d)
    (hR : cB wdM (d - 1) mX8_isSlot [.inr (.inr 0), .inl x1] h (fun h1 => cI wdM (d - 1) mX8_becomes [.inr (.inr 0), .inl 3, .inl x1] h1 (fun r3 h2 => Q r3 h2)) (fun h1 => Q (-1) h1)) :
    gI wdM d mX8_hand 0 [some (.inr (.inr 0)), some (.inl x1)] h Q := by
  unfold gI
  refine x_aload_n (pc := 0) (show decode mX8_hand.2.1 0 = .ok (.aload_n 0, 1) by decide +kernel) rfl rfl ?_
  refine x_iload_n (pc := 1) (show decode mX8_hand.2.1 1 = .ok (.iload_n 1, 1) by decide +kernel) rfl rfl ?_
  refine x_callV (pc := 2) (As := [.inl x1]) (rest := []) (lk8_103 rfl) im_X8_isSlot sl_X8_isSlot rfl rfl rfl (Nat.le_of_ble_eq_true rfl) (Nat.le_of_ble_eq_true rfl) (show decode mX8_hand.2.1 2 = .ok (.invokevirtual 103, 3) by decide +kernel) hd hR (fun r9 h1 hq => ?_)
  obtain ⟨r8, rfl, hq⟩ := hq
  rcases hq with ⟨rfl, hR⟩ | ⟨rfl, hR⟩
  · show xG _ _ _ 5 _ [.inl 1] _ _
    refine x_if_eq (pc := 5) (tgt := 17) (show decode mX8_hand.2.1 5 = .ok (.ifCond .eq 12, 3) by decide +kernel) (by decide) (by unfold inI; decide) (fun hc => absurd hc (by decide)) (fun _ => ?_)
    refine x_aload_n (pc := 8) (show decode mX8_hand.2.1 8 = .ok (.aload_n 0, 1) by decide +kernel) rfl rfl ?_
    refine x_iconst (pc := 9) (n := 3) (show decode mX8_hand.2.1 9 = .ok (.iconst 3, 1) by decide +kernel) ?_
    refine x_iload_n (pc := 10) (show decode mX8_hand.2.1 10 = .ok (.iload_n 1, 1) by decide +kernel) rfl rfl ?_
    refine x_callV (pc := 11) (As := [.inl 3, .inl x1]) (rest := []) (lk8_99 rfl) im_X8_becomes sl_X8_becomes rfl rfl rfl (Nat.le_of_ble_eq_true rfl) (Nat.le_of_ble_eq_true rfl) (show decode mX8_hand.2.1 11 = .ok (.invokevirtual 99, 3) by decide +kernel) hd hR (fun r9 h2 hq => ?_)
    obtain ⟨r3, rfl, hR⟩ := hq
    show xG _ _ _ 14 _ [.inl r3] _ _
    refine x_goto (pc := 14) (tgt := 18) (show decode mX8_hand.2.1 14 = .ok (.goto 4, 3) by decide +kernel) (by decide) ?_
    exact x_iret (pc := 18) rfl (show decode mX8_hand.2.1 18 = .ok (.ireturn, 1) by decide +kernel) ⟨_, rfl, hR⟩
  · show xG _ _ _ 5 _ [.inl 0] _ _
    refine x_if_eq (pc := 5) (tgt := 17) (show decode mX8_hand.2.1 5 = .ok (.ifCond .eq 12, 3) by decide +kernel) (by decide) (by unfold inI; decide) (fun _ => ?_) (fun hc => absurd hc (by decide))
    refine x_iconst (pc := 17) (n := (-1)) (show decode mX8_hand.2.1 17 = .ok (.iconst (-1), 1) by decide +kernel) ?_
    exact x_iret (pc := 18) rfl (show decode mX8_hand.2.1 18 = .ok (.ireturn, 1) by decide +kernel) ⟨_, rfl, hR⟩
set_option maxRecDepth 4000 in
theorem sg_X8_areFew_0 {d : Nat} {h : xH} {Q : Int → xH → Prop}
    (hR : gI wdM d mX8_areFew 9 [some (.inr (.inr 0)), some (.inl 0), some (.inl 0)] (xu h 0 10 0) Q) :
    gI wdM d mX8_areFew 0 [some (.inr (.inr 0)), none, none] h Q := by
  unfold gI
  refine x_aload_n (pc := 0) (show decode mX8_areFew.2.1 0 = .ok (.aload_n 0, 1) by decide +kernel) rfl rfl ?_
  refine x_iconst (pc := 1) (n := 0) (show decode mX8_areFew.2.1 1 = .ok (.iconst 0, 1) by decide +kernel) ?_
  refine x_putI (pc := 2) (ki := 10) f8_164 fp8_10 rfl rfl rfl (show decode mX8_areFew.2.1 2 = .ok (.putfield 164, 3) by decide +kernel) ?_
  refine x_iconst (pc := 5) (n := 0) (show decode mX8_areFew.2.1 5 = .ok (.iconst 0, 1) by decide +kernel) ?_
  refine x_istore_n (pc := 6) (ls' := [some (.inr (.inr 0)), some (.inl 0), none]) (show decode mX8_areFew.2.1 6 = .ok (.istore_n 1, 1) by decide +kernel) rfl (by decide) rfl ?_
  refine x_iconst (pc := 7) (n := 0) (show decode mX8_areFew.2.1 7 = .ok (.iconst 0, 1) by decide +kernel) ?_
  refine x_istore_n (pc := 8) (ls' := [some (.inr (.inr 0)), some (.inl 0), some (.inl 0)]) (show decode mX8_areFew.2.1 8 = .ok (.istore_n 2, 1) by decide +kernel) rfl (by decide) rfl ?_
  exact hR
set_option maxRecDepth 4000 in
theorem sg_X8_areFew_9 {d : Nat} {x1 x2 : Int} {h : xH} {Q : Int → xH → Prop} (hd : 1 ≤ d)
    (hR : (inI x2 ∧ inI (h 1 1)) ∧ ((h 1 1) ≤ x2 → cV wdM (d - 1) mX8_findsAll [.inr (.inr 0)] h (fun h1 => (inI x1) ∧ (12 < x1 → Q 0 h1) ∧ (x1 ≤ 12 → Q 1 h1))) ∧ (x2 < (h 1 1) → (0 ≤ (95 + x2) ∧ (95 + x2) < 1705) ∧ (inI (h 1 (95 + x2))) ∧ (¬ (h 1 (95 + x2)) = 1 → (inI (h 0 10)) ∧ (12 ≤ (h 0 10) → gI wdM d mX8_areFew 9 [some (.inr (.inr 0)), some (.inl (x1 + 1)), some (.inl (x2 + 1))] h Q) ∧ ((h 0 10) < 12 → (0 ≤ (h 0 10) ∧ (h 0 10) < 12) ∧ gI wdM d mX8_areFew 9 [some (.inr (.inr 0)), some (.inl (x1 + 1)), some (.inl (x2 + 1))] (xu (xu h 8 (h 0 10) x2) 0 10 ((h 0 10) + 1)) Q)) ∧ ((h 1 (95 + x2)) = 1 → gI wdM d mX8_areFew 9 [some (.inr (.inr 0)), some (.inl x1), some (.inl (x2 + 1))] h Q))) :
    gI wdM d mX8_areFew 9 [some (.inr (.inr 0)), some (.inl x1), some (.inl x2)] h Q := by
  unfold gI
  refine x_iload_n (pc := 9) (show decode mX8_areFew.2.1 9 = .ok (.iload_n 2, 1) by decide +kernel) rfl rfl ?_
  refine x_aload_n (pc := 10) (show decode mX8_areFew.2.1 10 = .ok (.aload_n 0, 1) by decide +kernel) rfl rfl ?_
  refine x_getR (pc := 11) f8_11 rfl rfl (show decode mX8_areFew.2.1 11 = .ok (.getfield 11, 3) by decide +kernel) ?_
  refine x_iconst (pc := 14) (n := 1) (show decode mX8_areFew.2.1 14 = .ok (.iconst 1, 1) by decide +kernel) ?_
  refine x_iald (pc := 15) rfl (by decide) (by decide) (show decode mX8_areFew.2.1 15 = .ok (.iaload, 1) by decide +kernel) ?_
  obtain ⟨hg, hR⟩ := hR
  refine x_icmp_ge (pc := 16) (tgt := 73) (show decode mX8_areFew.2.1 16 = .ok (.if_icmp .ge 57, 3) by decide +kernel) (by decide) ⟨hg.1, hg.2⟩ (fun hc => ?_) (fun hc => ?_)
  · replace hR := hR.1 hc
    refine x_aload_n (pc := 73) (show decode mX8_areFew.2.1 73 = .ok (.aload_n 0, 1) by decide +kernel) rfl rfl ?_
    refine x_callV (pc := 74) (As := []) (rest := []) (lk8_136 rfl) im_X8_findsAll sl_X8_findsAll rfl rfl rfl (Nat.le_of_ble_eq_true rfl) (Nat.le_of_ble_eq_true rfl) (show decode mX8_areFew.2.1 74 = .ok (.invokevirtual 136, 3) by decide +kernel) hd hR (fun r9 h1 hq => ?_)
    obtain ⟨rfl, hR⟩ := hq
    show xG _ _ _ 77 _ [] _ _
    refine x_iload_n (pc := 77) (show decode mX8_areFew.2.1 77 = .ok (.iload_n 1, 1) by decide +kernel) rfl rfl ?_
    refine x_bipush (pc := 78) (n := 12) (show decode mX8_areFew.2.1 78 = .ok (.bipush 12, 2) by decide +kernel) rfl ?_
    obtain ⟨hg, hR⟩ := hR
    refine x_icmp_gt (pc := 80) (tgt := 87) (show decode mX8_areFew.2.1 80 = .ok (.if_icmp .gt 7, 3) by decide +kernel) (by decide) ⟨hg, (by unfold inI; decide)⟩ (fun hc => ?_) (fun hc => ?_)
    · replace hR := hR.1 hc
      refine x_iconst (pc := 87) (n := 0) (show decode mX8_areFew.2.1 87 = .ok (.iconst 0, 1) by decide +kernel) ?_
      exact x_zret (pc := 88) rfl (show decode mX8_areFew.2.1 88 = .ok (.ireturn, 1) by decide +kernel) (by decide) ⟨_, rfl, hR⟩
    · replace hR := hR.2 hc
      refine x_iconst (pc := 83) (n := 1) (show decode mX8_areFew.2.1 83 = .ok (.iconst 1, 1) by decide +kernel) ?_
      refine x_goto (pc := 84) (tgt := 88) (show decode mX8_areFew.2.1 84 = .ok (.goto 4, 3) by decide +kernel) (by decide) ?_
      exact x_zret (pc := 88) rfl (show decode mX8_areFew.2.1 88 = .ok (.ireturn, 1) by decide +kernel) (by decide) ⟨_, rfl, hR⟩
  · replace hR := hR.2 hc
    refine x_aload_n (pc := 19) (show decode mX8_areFew.2.1 19 = .ok (.aload_n 0, 1) by decide +kernel) rfl rfl ?_
    refine x_getR (pc := 20) f8_11 rfl rfl (show decode mX8_areFew.2.1 20 = .ok (.getfield 11, 3) by decide +kernel) ?_
    refine x_bipush (pc := 23) (n := 95) (show decode mX8_areFew.2.1 23 = .ok (.bipush 95, 2) by decide +kernel) rfl ?_
    refine x_iload_n (pc := 25) (show decode mX8_areFew.2.1 25 = .ok (.iload_n 2, 1) by decide +kernel) rfl rfl ?_
    refine x_iadd (pc := 26) (show decode mX8_areFew.2.1 26 = .ok (.iadd, 1) by decide +kernel) ?_
    obtain ⟨hg, hR⟩ := hR
    refine x_iald (pc := 27) rfl (by decide) hg (show decode mX8_areFew.2.1 27 = .ok (.iaload, 1) by decide +kernel) ?_
    refine x_iconst (pc := 28) (n := 1) (show decode mX8_areFew.2.1 28 = .ok (.iconst 1, 1) by decide +kernel) ?_
    obtain ⟨hg, hR⟩ := hR
    refine x_icmp_ne (pc := 29) (tgt := 35) (show decode mX8_areFew.2.1 29 = .ok (.if_icmp .ne 6, 3) by decide +kernel) (by decide) ⟨hg, (by unfold inI; decide)⟩ (fun hc => ?_) (fun hc => ?_)
    · replace hR := hR.1 hc
      refine x_aload_n (pc := 35) (show decode mX8_areFew.2.1 35 = .ok (.aload_n 0, 1) by decide +kernel) rfl rfl ?_
      refine x_getI (pc := 36) (ki := 10) f8_164 rfl rfl (by decide) rfl (show decode mX8_areFew.2.1 36 = .ok (.getfield 164, 3) by decide +kernel) ?_
      refine x_bipush (pc := 39) (n := 12) (show decode mX8_areFew.2.1 39 = .ok (.bipush 12, 2) by decide +kernel) rfl ?_
      obtain ⟨hg, hR⟩ := hR
      refine x_icmp_ge (pc := 41) (tgt := 64) (show decode mX8_areFew.2.1 41 = .ok (.if_icmp .ge 23, 3) by decide +kernel) (by decide) ⟨hg, (by unfold inI; decide)⟩ (fun hc => ?_) (fun hc => ?_)
      · replace hR := hR.1 hc
        refine x_iinc (pc := 64) (ls' := [some (.inr (.inr 0)), some (.inl (x1 + 1)), some (.inl x2)]) (show decode mX8_areFew.2.1 64 = .ok (.iinc 1 1, 3) by decide +kernel) (by decide) rfl rfl ?_
        refine x_iinc (pc := 67) (ls' := [some (.inr (.inr 0)), some (.inl (x1 + 1)), some (.inl (x2 + 1))]) (show decode mX8_areFew.2.1 67 = .ok (.iinc 2 1, 3) by decide +kernel) (by decide) rfl rfl ?_
        refine x_goto (pc := 70) (tgt := 9) (show decode mX8_areFew.2.1 70 = .ok (.goto (-61), 3) by decide +kernel) (by decide) ?_
        exact hR
      · replace hR := hR.2 hc
        refine x_aload_n (pc := 44) (show decode mX8_areFew.2.1 44 = .ok (.aload_n 0, 1) by decide +kernel) rfl rfl ?_
        refine x_getR (pc := 45) f8_34 rfl rfl (show decode mX8_areFew.2.1 45 = .ok (.getfield 34, 3) by decide +kernel) ?_
        refine x_aload_n (pc := 48) (show decode mX8_areFew.2.1 48 = .ok (.aload_n 0, 1) by decide +kernel) rfl rfl ?_
        refine x_getI (pc := 49) (ki := 10) f8_164 rfl rfl (by decide) rfl (show decode mX8_areFew.2.1 49 = .ok (.getfield 164, 3) by decide +kernel) ?_
        refine x_iload_n (pc := 52) (show decode mX8_areFew.2.1 52 = .ok (.iload_n 2, 1) by decide +kernel) rfl rfl ?_
        obtain ⟨hg, hR⟩ := hR
        refine x_iast (pc := 53) rfl (by decide) hg (show decode mX8_areFew.2.1 53 = .ok (.iastore, 1) by decide +kernel) ?_
        refine x_aload_n (pc := 54) (show decode mX8_areFew.2.1 54 = .ok (.aload_n 0, 1) by decide +kernel) rfl rfl ?_
        refine x_dup (pc := 55) (show decode mX8_areFew.2.1 55 = .ok (.dup, 1) by decide +kernel) rfl ?_
        refine x_getI (pc := 56) (ki := 10) f8_164 rfl rfl (by decide) rfl (show decode mX8_areFew.2.1 56 = .ok (.getfield 164, 3) by decide +kernel) ?_
        refine x_iconst (pc := 59) (n := 1) (show decode mX8_areFew.2.1 59 = .ok (.iconst 1, 1) by decide +kernel) ?_
        refine x_iadd (pc := 60) (show decode mX8_areFew.2.1 60 = .ok (.iadd, 1) by decide +kernel) ?_
        refine x_putI (pc := 61) (ki := 10) f8_164 fp8_10 rfl rfl rfl (show decode mX8_areFew.2.1 61 = .ok (.putfield 164, 3) by decide +kernel) ?_
        refine x_iinc (pc := 64) (ls' := [some (.inr (.inr 0)), some (.inl (x1 + 1)), some (.inl x2)]) (show decode mX8_areFew.2.1 64 = .ok (.iinc 1 1, 3) by decide +kernel) (by decide) rfl rfl ?_
        refine x_iinc (pc := 67) (ls' := [some (.inr (.inr 0)), some (.inl (x1 + 1)), some (.inl (x2 + 1))]) (show decode mX8_areFew.2.1 67 = .ok (.iinc 2 1, 3) by decide +kernel) (by decide) rfl rfl ?_
        refine x_goto (pc := 70) (tgt := 9) (show decode mX8_areFew.2.1 70 = .ok (.goto (-61), 3) by decide +kernel) (by decide) ?_
        exact hR
    · replace hR := hR.2 hc
      refine x_goto (pc := 32) (tgt := 67) (show decode mX8_areFew.2.1 32 = .ok (.goto 35, 3) by decide +kernel) (by decide) ?_
      refine x_iinc (pc := 67) (ls' := [some (.inr (.inr 0)), some (.inl x1), some (.inl (x2 + 1))]) (show decode mX8_areFew.2.1 67 = .ok (.iinc 2 1, 3) by decide +kernel) (by decide) rfl rfl ?_
      refine x_goto (pc := 70) (tgt := 9) (show decode mX8_areFew.2.1 70 = .ok (.goto (-61), 3) by decide +kernel) (by decide) ?_
      exact hR
set_option maxRecDepth 4000 in
theorem sg_X8_mayCome_0 {d : Nat} {x1 x2 : Int} {h : xH} {Q : Int → xH → Prop}
    (hR : (inI x2 ∧ 0 ≤ x1 ∧ x1 ≤ 31) ∧ (inI (xandI (x2 / 2 ^ (Int.toNat x1)) 1)) ∧ (¬ (xandI (x2 / 2 ^ (Int.toNat x1)) 1) = 1 → gI wdM d mX8_mayCome 13 [some (.inr (.inr 0)), some (.inl x1), some (.inl x2), some (.inl 0)] h Q) ∧ ((xandI (x2 / 2 ^ (Int.toNat x1)) 1) = 1 → Q 0 h)) :
    gI wdM d mX8_mayCome 0 [some (.inr (.inr 0)), some (.inl x1), some (.inl x2), none] h Q := by
  unfold gI
  refine x_iload_n (pc := 0) (show decode mX8_mayCome.2.1 0 = .ok (.iload_n 2, 1) by decide +kernel) rfl rfl ?_
  refine x_iload_n (pc := 1) (show decode mX8_mayCome.2.1 1 = .ok (.iload_n 1, 1) by decide +kernel) rfl rfl ?_
  obtain ⟨hg, hR⟩ := hR
  refine x_ishr (pc := 2) (show decode mX8_mayCome.2.1 2 = .ok (.ishr, 1) by decide +kernel) hg ?_
  refine x_iconst (pc := 3) (n := 1) (show decode mX8_mayCome.2.1 3 = .ok (.iconst 1, 1) by decide +kernel) ?_
  refine x_iand (pc := 4) (show decode mX8_mayCome.2.1 4 = .ok (.iand, 1) by decide +kernel) ?_
  refine x_iconst (pc := 5) (n := 1) (show decode mX8_mayCome.2.1 5 = .ok (.iconst 1, 1) by decide +kernel) ?_
  obtain ⟨hg, hR⟩ := hR
  refine x_icmp_ne (pc := 6) (tgt := 11) (show decode mX8_mayCome.2.1 6 = .ok (.if_icmp .ne 5, 3) by decide +kernel) (by decide) ⟨hg, (by unfold inI; decide)⟩ (fun hc => ?_) (fun hc => ?_)
  · replace hR := hR.1 hc
    refine x_iconst (pc := 11) (n := 0) (show decode mX8_mayCome.2.1 11 = .ok (.iconst 0, 1) by decide +kernel) ?_
    refine x_istore_n (pc := 12) (ls' := [some (.inr (.inr 0)), some (.inl x1), some (.inl x2), some (.inl 0)]) (show decode mX8_mayCome.2.1 12 = .ok (.istore_n 3, 1) by decide +kernel) rfl (by decide) rfl ?_
    exact hR
  · replace hR := hR.2 hc
    refine x_iconst (pc := 9) (n := 0) (show decode mX8_mayCome.2.1 9 = .ok (.iconst 0, 1) by decide +kernel) ?_
    exact x_zret (pc := 10) rfl (show decode mX8_mayCome.2.1 10 = .ok (.ireturn, 1) by decide +kernel) (by decide) ⟨_, rfl, hR⟩
set_option maxRecDepth 4000 in
theorem sg_X8_mayCome_13 {d : Nat} {x1 x2 x3 : Int} {h : xH} {Q : Int → xH → Prop}
    (hR : (inI x3 ∧ inI (h 0 10)) ∧ ((h 0 10) ≤ x3 → Q 1 h) ∧ (x3 < (h 0 10) → (0 ≤ x1 ∧ x1 < 12) ∧ (0 ≤ (h 8 x1) ∧ (h 8 x1) < 30) ∧ (0 ≤ x3 ∧ x3 < 12) ∧ (inL (h 5 (h 8 x1)) ∧ 0 ≤ (h 8 x3) ∧ (h 8 x3) ≤ 63) ∧ (inL (xandL ((h 5 (h 8 x1)) / 2 ^ (Int.toNat (h 8 x3))) 1)) ∧ (¬ (xandL ((h 5 (h 8 x1)) / 2 ^ (Int.toNat (h 8 x3))) 1) = 1 → gI wdM d mX8_mayCome 13 [some (.inr (.inr 0)), some (.inl x1), some (.inl x2), some (.inl (x3 + 1))] h Q) ∧ ((xandL ((h 5 (h 8 x1)) / 2 ^ (Int.toNat (h 8 x3))) 1) = 1 → (inI x2 ∧ 0 ≤ x3 ∧ x3 ≤ 31) ∧ (inI (xandI (x2 / 2 ^ (Int.toNat x3)) 1)) ∧ (¬ (xandI (x2 / 2 ^ (Int.toNat x3)) 1) = 0 → gI wdM d mX8_mayCome 13 [some (.inr (.inr 0)), some (.inl x1), some (.inl x2), some (.inl (x3 + 1))] h Q) ∧ ((xandI (x2 / 2 ^ (Int.toNat x3)) 1) = 0 → Q 0 h)))) :
    gI wdM d mX8_mayCome 13 [some (.inr (.inr 0)), some (.inl x1), some (.inl x2), some (.inl x3)] h Q := by
  unfold gI
  refine x_iload_n (pc := 13) (show decode mX8_mayCome.2.1 13 = .ok (.iload_n 3, 1) by decide +kernel) rfl rfl ?_
  refine x_aload_n (pc := 14) (show decode mX8_mayCome.2.1 14 = .ok (.aload_n 0, 1) by decide +kernel) rfl rfl ?_
  refine x_getI (pc := 15) (ki := 10) f8_164 rfl rfl (by decide) rfl (show decode mX8_mayCome.2.1 15 = .ok (.getfield 164, 3) by decide +kernel) ?_
  obtain ⟨hg, hR⟩ := hR
  refine x_icmp_ge (pc := 18) (tgt := 62) (show decode mX8_mayCome.2.1 18 = .ok (.if_icmp .ge 44, 3) by decide +kernel) (by decide) ⟨hg.1, hg.2⟩ (fun hc => ?_) (fun hc => ?_)
  · replace hR := hR.1 hc
    refine x_iconst (pc := 62) (n := 1) (show decode mX8_mayCome.2.1 62 = .ok (.iconst 1, 1) by decide +kernel) ?_
    exact x_zret (pc := 63) rfl (show decode mX8_mayCome.2.1 63 = .ok (.ireturn, 1) by decide +kernel) (by decide) ⟨_, rfl, hR⟩
  · replace hR := hR.2 hc
    refine x_aload_n (pc := 21) (show decode mX8_mayCome.2.1 21 = .ok (.aload_n 0, 1) by decide +kernel) rfl rfl ?_
    refine x_getR (pc := 22) f8_25 rfl rfl (show decode mX8_mayCome.2.1 22 = .ok (.getfield 25, 3) by decide +kernel) ?_
    refine x_aload_n (pc := 25) (show decode mX8_mayCome.2.1 25 = .ok (.aload_n 0, 1) by decide +kernel) rfl rfl ?_
    refine x_getR (pc := 26) f8_34 rfl rfl (show decode mX8_mayCome.2.1 26 = .ok (.getfield 34, 3) by decide +kernel) ?_
    refine x_iload_n (pc := 29) (show decode mX8_mayCome.2.1 29 = .ok (.iload_n 1, 1) by decide +kernel) rfl rfl ?_
    obtain ⟨hg, hR⟩ := hR
    refine x_iald (pc := 30) rfl (by decide) hg (show decode mX8_mayCome.2.1 30 = .ok (.iaload, 1) by decide +kernel) ?_
    obtain ⟨hg, hR⟩ := hR
    refine x_lald (pc := 31) rfl (by decide) hg (show decode mX8_mayCome.2.1 31 = .ok (.laload, 1) by decide +kernel) ?_
    refine x_aload_n (pc := 32) (show decode mX8_mayCome.2.1 32 = .ok (.aload_n 0, 1) by decide +kernel) rfl rfl ?_
    refine x_getR (pc := 33) f8_34 rfl rfl (show decode mX8_mayCome.2.1 33 = .ok (.getfield 34, 3) by decide +kernel) ?_
    refine x_iload_n (pc := 36) (show decode mX8_mayCome.2.1 36 = .ok (.iload_n 3, 1) by decide +kernel) rfl rfl ?_
    obtain ⟨hg, hR⟩ := hR
    refine x_iald (pc := 37) rfl (by decide) hg (show decode mX8_mayCome.2.1 37 = .ok (.iaload, 1) by decide +kernel) ?_
    obtain ⟨hg, hR⟩ := hR
    refine x_lshr (pc := 38) (show decode mX8_mayCome.2.1 38 = .ok (.lshr, 1) by decide +kernel) hg ?_
    refine x_lconst (pc := 39) (v := 1) (show decode mX8_mayCome.2.1 39 = .ok (.lconst 1, 1) by decide +kernel) rfl ?_
    refine x_land (pc := 40) (show decode mX8_mayCome.2.1 40 = .ok (.land, 1) by decide +kernel) ?_
    refine x_lconst (pc := 41) (v := 1) (show decode mX8_mayCome.2.1 41 = .ok (.lconst 1, 1) by decide +kernel) rfl ?_
    obtain ⟨hg, hR⟩ := hR
    refine x_lcmp (pc := 42) (show decode mX8_mayCome.2.1 42 = .ok (.lcmp, 1) by decide +kernel) ⟨hg, (by unfold inL; decide)⟩ ?_
    refine x_if_ne (pc := 43) (tgt := 56) (show decode mX8_mayCome.2.1 43 = .ok (.ifCond .ne 13, 3) by decide +kernel) (by decide) (xcmp_in _ _) (fun hc => ?_) (fun hc => ?_)
    · replace hR := hR.1 (fun z => hc (xcmp_eq.mpr z))
      refine x_iinc (pc := 56) (ls' := [some (.inr (.inr 0)), some (.inl x1), some (.inl x2), some (.inl (x3 + 1))]) (show decode mX8_mayCome.2.1 56 = .ok (.iinc 3 1, 3) by decide +kernel) (by decide) rfl rfl ?_
      refine x_goto (pc := 59) (tgt := 13) (show decode mX8_mayCome.2.1 59 = .ok (.goto (-46), 3) by decide +kernel) (by decide) ?_
      exact hR
    · replace hR := hR.2 (xcmp_eq.mp hc)
      refine x_iload_n (pc := 46) (show decode mX8_mayCome.2.1 46 = .ok (.iload_n 2, 1) by decide +kernel) rfl rfl ?_
      refine x_iload_n (pc := 47) (show decode mX8_mayCome.2.1 47 = .ok (.iload_n 3, 1) by decide +kernel) rfl rfl ?_
      obtain ⟨hg, hR⟩ := hR
      refine x_ishr (pc := 48) (show decode mX8_mayCome.2.1 48 = .ok (.ishr, 1) by decide +kernel) hg ?_
      refine x_iconst (pc := 49) (n := 1) (show decode mX8_mayCome.2.1 49 = .ok (.iconst 1, 1) by decide +kernel) ?_
      refine x_iand (pc := 50) (show decode mX8_mayCome.2.1 50 = .ok (.iand, 1) by decide +kernel) ?_
      obtain ⟨hg, hR⟩ := hR
      refine x_if_ne (pc := 51) (tgt := 56) (show decode mX8_mayCome.2.1 51 = .ok (.ifCond .ne 5, 3) by decide +kernel) (by decide) hg (fun hc => ?_) (fun hc => ?_)
      · replace hR := hR.1 hc
        refine x_iinc (pc := 56) (ls' := [some (.inr (.inr 0)), some (.inl x1), some (.inl x2), some (.inl (x3 + 1))]) (show decode mX8_mayCome.2.1 56 = .ok (.iinc 3 1, 3) by decide +kernel) (by decide) rfl rfl ?_
        refine x_goto (pc := 59) (tgt := 13) (show decode mX8_mayCome.2.1 59 = .ok (.goto (-46), 3) by decide +kernel) (by decide) ?_
        exact hR
      · replace hR := hR.2 hc
        refine x_iconst (pc := 54) (n := 0) (show decode mX8_mayCome.2.1 54 = .ok (.iconst 0, 1) by decide +kernel) ?_
        exact x_zret (pc := 55) rfl (show decode mX8_mayCome.2.1 55 = .ok (.ireturn, 1) by decide +kernel) (by decide) ⟨_, rfl, hR⟩
set_option maxRecDepth 4000 in
theorem sg_X8_oneLacks_0 {d : Nat} {h : xH} {Q : Int → xH → Prop}
    (hR : gI wdM d mX8_oneLacks 2 [some (.inr (.inr 0)), some (.inl 0)] h Q) :
    gI wdM d mX8_oneLacks 0 [some (.inr (.inr 0)), none] h Q := by
  unfold gI
  refine x_iconst (pc := 0) (n := 0) (show decode mX8_oneLacks.2.1 0 = .ok (.iconst 0, 1) by decide +kernel) ?_
  refine x_istore_n (pc := 1) (ls' := [some (.inr (.inr 0)), some (.inl 0)]) (show decode mX8_oneLacks.2.1 1 = .ok (.istore_n 1, 1) by decide +kernel) rfl (by decide) rfl ?_
  exact hR
set_option maxRecDepth 4000 in
theorem sg_X8_oneLacks_2 {d : Nat} {x1 : Int} {h : xH} {Q : Int → xH → Prop} (hd : 1 ≤ d)
    (hR : (inI x1 ∧ inI (h 0 10)) ∧ ((h 0 10) ≤ x1 → Q 0 h) ∧ (x1 < (h 0 10) → (0 ≤ x1 ∧ x1 < 12) ∧ cB wdM (d - 1) mX8_lacks [.inr (.inr 0), .inl (h 8 x1)] h (fun h1 => Q 1 h1) (fun h1 => gI wdM d mX8_oneLacks 2 [some (.inr (.inr 0)), some (.inl (x1 + 1))] h1 Q))) :
    gI wdM d mX8_oneLacks 2 [some (.inr (.inr 0)), some (.inl x1)] h Q := by
  unfold gI
  refine x_iload_n (pc := 2) (show decode mX8_oneLacks.2.1 2 = .ok (.iload_n 1, 1) by decide +kernel) rfl rfl ?_
  refine x_aload_n (pc := 3) (show decode mX8_oneLacks.2.1 3 = .ok (.aload_n 0, 1) by decide +kernel) rfl rfl ?_
  refine x_getI (pc := 4) (ki := 10) f8_164 rfl rfl (by decide) rfl (show decode mX8_oneLacks.2.1 4 = .ok (.getfield 164, 3) by decide +kernel) ?_
  obtain ⟨hg, hR⟩ := hR
  refine x_icmp_ge (pc := 7) (tgt := 31) (show decode mX8_oneLacks.2.1 7 = .ok (.if_icmp .ge 24, 3) by decide +kernel) (by decide) ⟨hg.1, hg.2⟩ (fun hc => ?_) (fun hc => ?_)
  · replace hR := hR.1 hc
    refine x_iconst (pc := 31) (n := 0) (show decode mX8_oneLacks.2.1 31 = .ok (.iconst 0, 1) by decide +kernel) ?_
    exact x_zret (pc := 32) rfl (show decode mX8_oneLacks.2.1 32 = .ok (.ireturn, 1) by decide +kernel) (by decide) ⟨_, rfl, hR⟩
  · replace hR := hR.2 hc
    refine x_aload_n (pc := 10) (show decode mX8_oneLacks.2.1 10 = .ok (.aload_n 0, 1) by decide +kernel) rfl rfl ?_
    refine x_aload_n (pc := 11) (show decode mX8_oneLacks.2.1 11 = .ok (.aload_n 0, 1) by decide +kernel) rfl rfl ?_
    refine x_getR (pc := 12) f8_34 rfl rfl (show decode mX8_oneLacks.2.1 12 = .ok (.getfield 34, 3) by decide +kernel) ?_
    refine x_iload_n (pc := 15) (show decode mX8_oneLacks.2.1 15 = .ok (.iload_n 1, 1) by decide +kernel) rfl rfl ?_
    obtain ⟨hg, hR⟩ := hR
    refine x_iald (pc := 16) rfl (by decide) hg (show decode mX8_oneLacks.2.1 16 = .ok (.iaload, 1) by decide +kernel) ?_
    refine x_callV (pc := 17) (As := [.inl (h 8 x1)]) (rest := []) (lk8_127 rfl) im_X8_lacks sl_X8_lacks rfl rfl rfl (Nat.le_of_ble_eq_true rfl) (Nat.le_of_ble_eq_true rfl) (show decode mX8_oneLacks.2.1 17 = .ok (.invokevirtual 127, 3) by decide +kernel) hd hR (fun r9 h1 hq => ?_)
    obtain ⟨r8, rfl, hq⟩ := hq
    rcases hq with ⟨rfl, hR⟩ | ⟨rfl, hR⟩
    · show xG _ _ _ 20 _ [.inl 1] _ _
      refine x_if_eq (pc := 20) (tgt := 25) (show decode mX8_oneLacks.2.1 20 = .ok (.ifCond .eq 5, 3) by decide +kernel) (by decide) (by unfold inI; decide) (fun hc => absurd hc (by decide)) (fun _ => ?_)
      refine x_iconst (pc := 23) (n := 1) (show decode mX8_oneLacks.2.1 23 = .ok (.iconst 1, 1) by decide +kernel) ?_
      exact x_zret (pc := 24) rfl (show decode mX8_oneLacks.2.1 24 = .ok (.ireturn, 1) by decide +kernel) (by decide) ⟨_, rfl, hR⟩
    · show xG _ _ _ 20 _ [.inl 0] _ _
      refine x_if_eq (pc := 20) (tgt := 25) (show decode mX8_oneLacks.2.1 20 = .ok (.ifCond .eq 5, 3) by decide +kernel) (by decide) (by unfold inI; decide) (fun _ => ?_) (fun hc => absurd hc (by decide))
      refine x_iinc (pc := 25) (ls' := [some (.inr (.inr 0)), some (.inl (x1 + 1))]) (show decode mX8_oneLacks.2.1 25 = .ok (.iinc 1 1, 3) by decide +kernel) (by decide) rfl rfl ?_
      refine x_goto (pc := 28) (tgt := 2) (show decode mX8_oneLacks.2.1 28 = .ok (.goto (-26), 3) by decide +kernel) (by decide) ?_
      exact hR
set_option maxRecDepth 4000 in
theorem sg_X8_goesBack_0 {d : Nat} {h : xH} {Q : xH → Prop} (hd : 1 ≤ d)
    (hR : (0 ≤ (h 0 10) ∧ (h 0 10) ≤ 31) ∧ cI wdM (d - 1) mX8_oneLacks [.inr (.inr 0)] h (fun r2 h1 => gV wdM d mX8_goesBack 16 [some (.inr (.inr 0)), some (.inl ((1 * 2 ^ (Int.toNat (h 0 10))) - 1)), some (.inl r2), some (.inl ((1 * 2 ^ (Int.toNat (h 0 10))) - 1)), none, none, none, none] h1 Q)) :
    gV wdM d mX8_goesBack 0 [some (.inr (.inr 0)), none, none, none, none, none, none, none] h Q := by
  unfold gV
  refine x_iconst (pc := 0) (n := 1) (show decode mX8_goesBack.2.1 0 = .ok (.iconst 1, 1) by decide +kernel) ?_
  refine x_aload_n (pc := 1) (show decode mX8_goesBack.2.1 1 = .ok (.aload_n 0, 1) by decide +kernel) rfl rfl ?_
  refine x_getI (pc := 2) (ki := 10) f8_164 rfl rfl (by decide) rfl (show decode mX8_goesBack.2.1 2 = .ok (.getfield 164, 3) by decide +kernel) ?_
  obtain ⟨hg, hR⟩ := hR
  refine x_ishl (pc := 5) (show decode mX8_goesBack.2.1 5 = .ok (.ishl, 1) by decide +kernel) hg ?_
  refine x_iconst (pc := 6) (n := 1) (show decode mX8_goesBack.2.1 6 = .ok (.iconst 1, 1) by decide +kernel) ?_
  refine x_isub (pc := 7) (show decode mX8_goesBack.2.1 7 = .ok (.isub, 1) by decide +kernel) ?_
  refine x_istore_n (pc := 8) (ls' := [some (.inr (.inr 0)), some (.inl ((1 * 2 ^ (Int.toNat (h 0 10))) - 1)), none, none, none, none, none, none]) (show decode mX8_goesBack.2.1 8 = .ok (.istore_n 1, 1) by decide +kernel) rfl (by decide) rfl ?_
  refine x_aload_n (pc := 9) (show decode mX8_goesBack.2.1 9 = .ok (.aload_n 0, 1) by decide +kernel) rfl rfl ?_
  refine x_callV (pc := 10) (As := []) (rest := []) (lk8_168 rfl) im_X8_oneLacks sl_X8_oneLacks rfl rfl rfl (Nat.le_of_ble_eq_true rfl) (Nat.le_of_ble_eq_true rfl) (show decode mX8_goesBack.2.1 10 = .ok (.invokevirtual 168, 3) by decide +kernel) hd hR (fun r9 h1 hq => ?_)
  obtain ⟨r2, rfl, hR⟩ := hq
  show xG _ _ _ 13 _ [.inl r2] _ _
  refine x_istore_n (pc := 13) (ls' := [some (.inr (.inr 0)), some (.inl ((1 * 2 ^ (Int.toNat (h 0 10))) - 1)), some (.inl r2), none, none, none, none, none]) (show decode mX8_goesBack.2.1 13 = .ok (.istore_n 2, 1) by decide +kernel) rfl (by decide) rfl ?_
  refine x_iload_n (pc := 14) (show decode mX8_goesBack.2.1 14 = .ok (.iload_n 1, 1) by decide +kernel) rfl rfl ?_
  refine x_istore_n (pc := 15) (ls' := [some (.inr (.inr 0)), some (.inl ((1 * 2 ^ (Int.toNat (h 0 10))) - 1)), some (.inl r2), some (.inl ((1 * 2 ^ (Int.toNat (h 0 10))) - 1)), none, none, none, none]) (show decode mX8_goesBack.2.1 15 = .ok (.istore_n 3, 1) by decide +kernel) rfl (by decide) rfl ?_
  exact hR
set_option maxRecDepth 4000 in
theorem sg_X8_goesBack_16 {d : Nat} {x1 x2 x3 : Int} {h : xH} {Q : xH → Prop}
    (hR : (inI x3) ∧ (x3 < 0 → Q h) ∧ (0 ≤ x3 → (inI x3 ∧ inI x1) ∧ (¬ x3 = x1 → (0 ≤ x3 ∧ x3 < 4096) ∧ gV wdM d mX8_goesBack 43 [some (.inr (.inr 0)), some (.inl x1), some (.inl x2), some (.inl x3), some (.inl 0), none, none, none] (xu h 6 x3 0) Q) ∧ (x3 = x1 → (inI x2) ∧ (¬ x2 = 0 → (0 ≤ x3 ∧ x3 < 4096) ∧ gV wdM d mX8_goesBack 43 [some (.inr (.inr 0)), some (.inl x1), some (.inl x2), some (.inl x3), some (.inl 0), none, none, none] (xu h 6 x3 0) Q) ∧ (x2 = 0 → (0 ≤ x3 ∧ x3 < 4096) ∧ gV wdM d mX8_goesBack 43 [some (.inr (.inr 0)), some (.inl x1), some (.inl x2), some (.inl x3), some (.inl 0), none, none, none] (xu h 6 x3 1) Q)))) :
    gV wdM d mX8_goesBack 16 [some (.inr (.inr 0)), some (.inl x1), some (.inl x2), some (.inl x3), none, none, none, none] h Q := by
  unfold gV
  refine x_iload_n (pc := 16) (show decode mX8_goesBack.2.1 16 = .ok (.iload_n 3, 1) by decide +kernel) rfl rfl ?_
  obtain ⟨hg, hR⟩ := hR
  refine x_if_lt (pc := 17) (tgt := 247) (show decode mX8_goesBack.2.1 17 = .ok (.ifCond .lt 230, 3) by decide +kernel) (by decide) hg (fun hc => ?_) (fun hc => ?_)
  · replace hR := hR.1 hc
    exact x_vret (pc := 247) rfl (show decode mX8_goesBack.2.1 247 = .ok (.return_, 1) by decide +kernel) ⟨rfl, hR⟩
  · replace hR := hR.2 hc
    refine x_aload_n (pc := 20) (show decode mX8_goesBack.2.1 20 = .ok (.aload_n 0, 1) by decide +kernel) rfl rfl ?_
    refine x_getR (pc := 21) f8_28 rfl rfl (show decode mX8_goesBack.2.1 21 = .ok (.getfield 28, 3) by decide +kernel) ?_
    refine x_iload_n (pc := 24) (show decode mX8_goesBack.2.1 24 = .ok (.iload_n 3, 1) by decide +kernel) rfl rfl ?_
    refine x_iload_n (pc := 25) (show decode mX8_goesBack.2.1 25 = .ok (.iload_n 3, 1) by decide +kernel) rfl rfl ?_
    refine x_iload_n (pc := 26) (show decode mX8_goesBack.2.1 26 = .ok (.iload_n 1, 1) by decide +kernel) rfl rfl ?_
    obtain ⟨hg, hR⟩ := hR
    refine x_icmp_ne (pc := 27) (tgt := 38) (show decode mX8_goesBack.2.1 27 = .ok (.if_icmp .ne 11, 3) by decide +kernel) (by decide) ⟨hg.1, hg.2⟩ (fun hc => ?_) (fun hc => ?_)
    · replace hR := hR.1 hc
      refine x_lconst (pc := 38) (v := 0) (show decode mX8_goesBack.2.1 38 = .ok (.lconst 0, 1) by decide +kernel) rfl ?_
      obtain ⟨hg, hR⟩ := hR
      refine x_last (pc := 39) rfl (by decide) hg (show decode mX8_goesBack.2.1 39 = .ok (.lastore, 1) by decide +kernel) ?_
      refine x_iconst (pc := 40) (n := 0) (show decode mX8_goesBack.2.1 40 = .ok (.iconst 0, 1) by decide +kernel) ?_
      refine x_istore (pc := 41) (ls' := [some (.inr (.inr 0)), some (.inl x1), some (.inl x2), some (.inl x3), some (.inl 0), none, none, none]) (show decode mX8_goesBack.2.1 41 = .ok (.istore 4, 2) by decide +kernel) (by decide) rfl ?_
      exact hR
    · replace hR := hR.2 hc
      refine x_iload_n (pc := 30) (show decode mX8_goesBack.2.1 30 = .ok (.iload_n 2, 1) by decide +kernel) rfl rfl ?_
      obtain ⟨hg, hR⟩ := hR
      refine x_if_ne (pc := 31) (tgt := 38) (show decode mX8_goesBack.2.1 31 = .ok (.ifCond .ne 7, 3) by decide +kernel) (by decide) hg (fun hc => ?_) (fun hc => ?_)
      · replace hR := hR.1 hc
        refine x_lconst (pc := 38) (v := 0) (show decode mX8_goesBack.2.1 38 = .ok (.lconst 0, 1) by decide +kernel) rfl ?_
        obtain ⟨hg, hR⟩ := hR
        refine x_last (pc := 39) rfl (by decide) hg (show decode mX8_goesBack.2.1 39 = .ok (.lastore, 1) by decide +kernel) ?_
        refine x_iconst (pc := 40) (n := 0) (show decode mX8_goesBack.2.1 40 = .ok (.iconst 0, 1) by decide +kernel) ?_
        refine x_istore (pc := 41) (ls' := [some (.inr (.inr 0)), some (.inl x1), some (.inl x2), some (.inl x3), some (.inl 0), none, none, none]) (show decode mX8_goesBack.2.1 41 = .ok (.istore 4, 2) by decide +kernel) (by decide) rfl ?_
        exact hR
      · replace hR := hR.2 hc
        refine x_lconst (pc := 34) (v := 1) (show decode mX8_goesBack.2.1 34 = .ok (.lconst 1, 1) by decide +kernel) rfl ?_
        refine x_goto (pc := 35) (tgt := 39) (show decode mX8_goesBack.2.1 35 = .ok (.goto 4, 3) by decide +kernel) (by decide) ?_
        obtain ⟨hg, hR⟩ := hR
        refine x_last (pc := 39) rfl (by decide) hg (show decode mX8_goesBack.2.1 39 = .ok (.lastore, 1) by decide +kernel) ?_
        refine x_iconst (pc := 40) (n := 0) (show decode mX8_goesBack.2.1 40 = .ok (.iconst 0, 1) by decide +kernel) ?_
        refine x_istore (pc := 41) (ls' := [some (.inr (.inr 0)), some (.inl x1), some (.inl x2), some (.inl x3), some (.inl 0), none, none, none]) (show decode mX8_goesBack.2.1 41 = .ok (.istore 4, 2) by decide +kernel) (by decide) rfl ?_
        exact hR
set_option maxRecDepth 4000 in
theorem sg_X8_goesBack_43 {d : Nat} {x1 x2 x3 x4 : Int} {h : xH} {Q : xH → Prop}
    (hR : (inI x4 ∧ inI (h 0 10)) ∧ ((h 0 10) ≤ x4 → gV wdM d mX8_goesBack 88 [some (.inr (.inr 0)), some (.inl x1), some (.inl x2), some (.inl x3), some (.inl 0), none, none, none] h Q) ∧ (x4 < (h 0 10) → (inI x3 ∧ inI x1) ∧ (¬ x3 = x1 → (0 ≤ ((12 * x3) + x4) ∧ ((12 * x3) + x4) < 49152) ∧ gV wdM d mX8_goesBack 43 [some (.inr (.inr 0)), some (.inl x1), some (.inl x2), some (.inl x3), some (.inl (x4 + 1)), none, none, none] (xu h 9 ((12 * x3) + x4) 1000000) Q) ∧ (x3 = x1 → (inI x2) ∧ (¬ x2 = 0 → (0 ≤ ((12 * x3) + x4) ∧ ((12 * x3) + x4) < 49152) ∧ gV wdM d mX8_goesBack 43 [some (.inr (.inr 0)), some (.inl x1), some (.inl x2), some (.inl x3), some (.inl (x4 + 1)), none, none, none] (xu h 9 ((12 * x3) + x4) 1000000) Q) ∧ (x2 = 0 → (0 ≤ ((12 * x3) + x4) ∧ ((12 * x3) + x4) < 49152) ∧ gV wdM d mX8_goesBack 43 [some (.inr (.inr 0)), some (.inl x1), some (.inl x2), some (.inl x3), some (.inl (x4 + 1)), none, none, none] (xu h 9 ((12 * x3) + x4) 0) Q)))) :
    gV wdM d mX8_goesBack 43 [some (.inr (.inr 0)), some (.inl x1), some (.inl x2), some (.inl x3), some (.inl x4), none, none, none] h Q := by
  unfold gV
  refine x_iload (pc := 43) (show decode mX8_goesBack.2.1 43 = .ok (.iload 4, 2) by decide +kernel) rfl ?_
  refine x_aload_n (pc := 45) (show decode mX8_goesBack.2.1 45 = .ok (.aload_n 0, 1) by decide +kernel) rfl rfl ?_
  refine x_getI (pc := 46) (ki := 10) f8_164 rfl rfl (by decide) rfl (show decode mX8_goesBack.2.1 46 = .ok (.getfield 164, 3) by decide +kernel) ?_
  obtain ⟨hg, hR⟩ := hR
  refine x_icmp_ge (pc := 49) (tgt := 85) (show decode mX8_goesBack.2.1 49 = .ok (.if_icmp .ge 36, 3) by decide +kernel) (by decide) ⟨hg.1, hg.2⟩ (fun hc => ?_) (fun hc => ?_)
  · replace hR := hR.1 hc
    refine x_iconst (pc := 85) (n := 0) (show decode mX8_goesBack.2.1 85 = .ok (.iconst 0, 1) by decide +kernel) ?_
    refine x_istore (pc := 86) (ls' := [some (.inr (.inr 0)), some (.inl x1), some (.inl x2), some (.inl x3), some (.inl 0), none, none, none]) (show decode mX8_goesBack.2.1 86 = .ok (.istore 4, 2) by decide +kernel) (by decide) rfl ?_
    exact hR
  · replace hR := hR.2 hc
    refine x_aload_n (pc := 52) (show decode mX8_goesBack.2.1 52 = .ok (.aload_n 0, 1) by decide +kernel) rfl rfl ?_
    refine x_getR (pc := 53) f8_38 rfl rfl (show decode mX8_goesBack.2.1 53 = .ok (.getfield 38, 3) by decide +kernel) ?_
    refine x_bipush (pc := 56) (n := 12) (show decode mX8_goesBack.2.1 56 = .ok (.bipush 12, 2) by decide +kernel) rfl ?_
    refine x_iload_n (pc := 58) (show decode mX8_goesBack.2.1 58 = .ok (.iload_n 3, 1) by decide +kernel) rfl rfl ?_
    refine x_imul (pc := 59) (show decode mX8_goesBack.2.1 59 = .ok (.imul, 1) by decide +kernel) ?_
    refine x_iload (pc := 60) (show decode mX8_goesBack.2.1 60 = .ok (.iload 4, 2) by decide +kernel) rfl ?_
    refine x_iadd (pc := 62) (show decode mX8_goesBack.2.1 62 = .ok (.iadd, 1) by decide +kernel) ?_
    refine x_iload_n (pc := 63) (show decode mX8_goesBack.2.1 63 = .ok (.iload_n 3, 1) by decide +kernel) rfl rfl ?_
    refine x_iload_n (pc := 64) (show decode mX8_goesBack.2.1 64 = .ok (.iload_n 1, 1) by decide +kernel) rfl rfl ?_
    obtain ⟨hg, hR⟩ := hR
    refine x_icmp_ne (pc := 65) (tgt := 76) (show decode mX8_goesBack.2.1 65 = .ok (.if_icmp .ne 11, 3) by decide +kernel) (by decide) ⟨hg.1, hg.2⟩ (fun hc => ?_) (fun hc => ?_)
    · replace hR := hR.1 hc
      refine x_ldc (pc := 76) (n := 1000000) (tblG_m6 35 rfl rfl) rfl (show decode mX8_goesBack.2.1 76 = .ok (.ldc 172, 2) by decide +kernel) ?_
      obtain ⟨hg, hR⟩ := hR
      refine x_iast (pc := 78) rfl (by decide) hg (show decode mX8_goesBack.2.1 78 = .ok (.iastore, 1) by decide +kernel) ?_
      refine x_iinc (pc := 79) (ls' := [some (.inr (.inr 0)), some (.inl x1), some (.inl x2), some (.inl x3), some (.inl (x4 + 1)), none, none, none]) (show decode mX8_goesBack.2.1 79 = .ok (.iinc 4 1, 3) by decide +kernel) (by decide) rfl rfl ?_
      refine x_goto (pc := 82) (tgt := 43) (show decode mX8_goesBack.2.1 82 = .ok (.goto (-39), 3) by decide +kernel) (by decide) ?_
      exact hR
    · replace hR := hR.2 hc
      refine x_iload_n (pc := 68) (show decode mX8_goesBack.2.1 68 = .ok (.iload_n 2, 1) by decide +kernel) rfl rfl ?_
      obtain ⟨hg, hR⟩ := hR
      refine x_if_ne (pc := 69) (tgt := 76) (show decode mX8_goesBack.2.1 69 = .ok (.ifCond .ne 7, 3) by decide +kernel) (by decide) hg (fun hc => ?_) (fun hc => ?_)
      · replace hR := hR.1 hc
        refine x_ldc (pc := 76) (n := 1000000) (tblG_m6 35 rfl rfl) rfl (show decode mX8_goesBack.2.1 76 = .ok (.ldc 172, 2) by decide +kernel) ?_
        obtain ⟨hg, hR⟩ := hR
        refine x_iast (pc := 78) rfl (by decide) hg (show decode mX8_goesBack.2.1 78 = .ok (.iastore, 1) by decide +kernel) ?_
        refine x_iinc (pc := 79) (ls' := [some (.inr (.inr 0)), some (.inl x1), some (.inl x2), some (.inl x3), some (.inl (x4 + 1)), none, none, none]) (show decode mX8_goesBack.2.1 79 = .ok (.iinc 4 1, 3) by decide +kernel) (by decide) rfl rfl ?_
        refine x_goto (pc := 82) (tgt := 43) (show decode mX8_goesBack.2.1 82 = .ok (.goto (-39), 3) by decide +kernel) (by decide) ?_
        exact hR
      · replace hR := hR.2 hc
        refine x_iconst (pc := 72) (n := 0) (show decode mX8_goesBack.2.1 72 = .ok (.iconst 0, 1) by decide +kernel) ?_
        refine x_goto (pc := 73) (tgt := 78) (show decode mX8_goesBack.2.1 73 = .ok (.goto 5, 3) by decide +kernel) (by decide) ?_
        obtain ⟨hg, hR⟩ := hR
        refine x_iast (pc := 78) rfl (by decide) hg (show decode mX8_goesBack.2.1 78 = .ok (.iastore, 1) by decide +kernel) ?_
        refine x_iinc (pc := 79) (ls' := [some (.inr (.inr 0)), some (.inl x1), some (.inl x2), some (.inl x3), some (.inl (x4 + 1)), none, none, none]) (show decode mX8_goesBack.2.1 79 = .ok (.iinc 4 1, 3) by decide +kernel) (by decide) rfl rfl ?_
        refine x_goto (pc := 82) (tgt := 43) (show decode mX8_goesBack.2.1 82 = .ok (.goto (-39), 3) by decide +kernel) (by decide) ?_
        exact hR
set_option maxRecDepth 4000 in
theorem sg_X8_goesBack_88 {d : Nat} {x1 x2 x3 x4 : Int} {h : xH} {Q : xH → Prop} (hd : 1 ≤ d)
    (hR : (inI x4 ∧ inI (h 0 10)) ∧ ((h 0 10) ≤ x4 → gV wdM d mX8_goesBack 16 [some (.inr (.inr 0)), some (.inl x1), some (.inl x2), some (.inl (x3 + (-1))), none, none, none, none] h Q) ∧ (x4 < (h 0 10) → (inI x2) ∧ (¬ x2 = 0 → gV wdM d mX8_goesBack 16 [some (.inr (.inr 0)), some (.inl x1), some (.inl x2), some (.inl (x3 + (-1))), none, none, none, none] h Q) ∧ (x2 = 0 → cB wdM (d - 1) mX8_mayCome [.inr (.inr 0), .inl x4, .inl x3] h (fun h1 => (0 ≤ x4 ∧ x4 ≤ 31) ∧ (0 ≤ x3 ∧ x3 < 4096) ∧ (0 ≤ (xorI x3 (1 * 2 ^ (Int.toNat x4))) ∧ (xorI x3 (1 * 2 ^ (Int.toNat x4))) < 4096) ∧ (0 ≤ x3 ∧ x3 < 4096) ∧ gV wdM d mX8_goesBack 141 [some (.inr (.inr 0)), some (.inl x1), some (.inl x2), some (.inl x3), some (.inl x4), some (.inl (xorI x3 (1 * 2 ^ (Int.toNat x4)))), some (.inl 0), none] (xu h1 6 x3 ((h1 6 x3) + (h1 6 (xorI x3 (1 * 2 ^ (Int.toNat x4)))))) Q) (fun h1 => gV wdM d mX8_goesBack 88 [some (.inr (.inr 0)), some (.inl x1), some (.inl x2), some (.inl x3), some (.inl (x4 + 1)), none, none, none] h1 Q)))) :
    gV wdM d mX8_goesBack 88 [some (.inr (.inr 0)), some (.inl x1), some (.inl x2), some (.inl x3), some (.inl x4), none, none, none] h Q := by
  unfold gV
  refine x_iload (pc := 88) (show decode mX8_goesBack.2.1 88 = .ok (.iload 4, 2) by decide +kernel) rfl ?_
  refine x_aload_n (pc := 90) (show decode mX8_goesBack.2.1 90 = .ok (.aload_n 0, 1) by decide +kernel) rfl rfl ?_
  refine x_getI (pc := 91) (ki := 10) f8_164 rfl rfl (by decide) rfl (show decode mX8_goesBack.2.1 91 = .ok (.getfield 164, 3) by decide +kernel) ?_
  obtain ⟨hg, hR⟩ := hR
  refine x_icmp_ge (pc := 94) (tgt := 241) (show decode mX8_goesBack.2.1 94 = .ok (.if_icmp .ge 147, 3) by decide +kernel) (by decide) ⟨hg.1, hg.2⟩ (fun hc => ?_) (fun hc => ?_)
  · replace hR := hR.1 hc
    refine x_iinc (pc := 241) (ls' := [some (.inr (.inr 0)), some (.inl x1), some (.inl x2), some (.inl (x3 + (-1))), some (.inl x4), none, none, none]) (show decode mX8_goesBack.2.1 241 = .ok (.iinc 3 (-1), 3) by decide +kernel) (by decide) rfl rfl ?_
    refine x_goto (pc := 244) (tgt := 16) (show decode mX8_goesBack.2.1 244 = .ok (.goto (-228), 3) by decide +kernel) (by decide) ?_
    exact x_weak (xle_get (by repeat' constructor)) hR
  · replace hR := hR.2 hc
    refine x_iload_n (pc := 97) (show decode mX8_goesBack.2.1 97 = .ok (.iload_n 2, 1) by decide +kernel) rfl rfl ?_
    obtain ⟨hg, hR⟩ := hR
    refine x_if_ne (pc := 98) (tgt := 241) (show decode mX8_goesBack.2.1 98 = .ok (.ifCond .ne 143, 3) by decide +kernel) (by decide) hg (fun hc => ?_) (fun hc => ?_)
    · replace hR := hR.1 hc
      refine x_iinc (pc := 241) (ls' := [some (.inr (.inr 0)), some (.inl x1), some (.inl x2), some (.inl (x3 + (-1))), some (.inl x4), none, none, none]) (show decode mX8_goesBack.2.1 241 = .ok (.iinc 3 (-1), 3) by decide +kernel) (by decide) rfl rfl ?_
      refine x_goto (pc := 244) (tgt := 16) (show decode mX8_goesBack.2.1 244 = .ok (.goto (-228), 3) by decide +kernel) (by decide) ?_
      exact x_weak (xle_get (by repeat' constructor)) hR
    · replace hR := hR.2 hc
      refine x_aload_n (pc := 101) (show decode mX8_goesBack.2.1 101 = .ok (.aload_n 0, 1) by decide +kernel) rfl rfl ?_
      refine x_iload (pc := 102) (show decode mX8_goesBack.2.1 102 = .ok (.iload 4, 2) by decide +kernel) rfl ?_
      refine x_iload_n (pc := 104) (show decode mX8_goesBack.2.1 104 = .ok (.iload_n 3, 1) by decide +kernel) rfl rfl ?_
      refine x_callV (pc := 105) (As := [.inl x4, .inl x3]) (rest := []) (lk8_173 rfl) im_X8_mayCome sl_X8_mayCome rfl rfl rfl (Nat.le_of_ble_eq_true rfl) (Nat.le_of_ble_eq_true rfl) (show decode mX8_goesBack.2.1 105 = .ok (.invokevirtual 173, 3) by decide +kernel) hd hR (fun r9 h1 hq => ?_)
      obtain ⟨r8, rfl, hq⟩ := hq
      rcases hq with ⟨rfl, hR⟩ | ⟨rfl, hR⟩
      · show xG _ _ _ 108 _ [.inl 1] _ _
        refine x_if_ne (pc := 108) (tgt := 114) (show decode mX8_goesBack.2.1 108 = .ok (.ifCond .ne 6, 3) by decide +kernel) (by decide) (by unfold inI; decide) (fun _ => ?_) (fun hc => absurd hc (by decide))
        refine x_iload_n (pc := 114) (show decode mX8_goesBack.2.1 114 = .ok (.iload_n 3, 1) by decide +kernel) rfl rfl ?_
        refine x_iconst (pc := 115) (n := 1) (show decode mX8_goesBack.2.1 115 = .ok (.iconst 1, 1) by decide +kernel) ?_
        refine x_iload (pc := 116) (show decode mX8_goesBack.2.1 116 = .ok (.iload 4, 2) by decide +kernel) rfl ?_
        obtain ⟨hg, hR⟩ := hR
        refine x_ishl (pc := 118) (show decode mX8_goesBack.2.1 118 = .ok (.ishl, 1) by decide +kernel) hg ?_
        refine x_ior (pc := 119) (show decode mX8_goesBack.2.1 119 = .ok (.ior, 1) by decide +kernel) ?_
        refine x_istore (pc := 120) (ls' := [some (.inr (.inr 0)), some (.inl x1), some (.inl x2), some (.inl x3), some (.inl x4), some (.inl (xorI x3 (1 * 2 ^ (Int.toNat x4)))), none, none]) (show decode mX8_goesBack.2.1 120 = .ok (.istore 5, 2) by decide +kernel) (by decide) rfl ?_
        refine x_aload_n (pc := 122) (show decode mX8_goesBack.2.1 122 = .ok (.aload_n 0, 1) by decide +kernel) rfl rfl ?_
        refine x_getR (pc := 123) f8_28 rfl rfl (show decode mX8_goesBack.2.1 123 = .ok (.getfield 28, 3) by decide +kernel) ?_
        refine x_iload_n (pc := 126) (show decode mX8_goesBack.2.1 126 = .ok (.iload_n 3, 1) by decide +kernel) rfl rfl ?_
        refine x_dup2 (pc := 127) (show decode mX8_goesBack.2.1 127 = .ok (.dup2, 1) by decide +kernel) rfl rfl ?_
        obtain ⟨hg, hR⟩ := hR
        refine x_lald (pc := 128) rfl (by decide) hg (show decode mX8_goesBack.2.1 128 = .ok (.laload, 1) by decide +kernel) ?_
        refine x_aload_n (pc := 129) (show decode mX8_goesBack.2.1 129 = .ok (.aload_n 0, 1) by decide +kernel) rfl rfl ?_
        refine x_getR (pc := 130) f8_28 rfl rfl (show decode mX8_goesBack.2.1 130 = .ok (.getfield 28, 3) by decide +kernel) ?_
        refine x_iload (pc := 133) (show decode mX8_goesBack.2.1 133 = .ok (.iload 5, 2) by decide +kernel) rfl ?_
        obtain ⟨hg, hR⟩ := hR
        refine x_lald (pc := 135) rfl (by decide) hg (show decode mX8_goesBack.2.1 135 = .ok (.laload, 1) by decide +kernel) ?_
        refine x_ladd (pc := 136) (show decode mX8_goesBack.2.1 136 = .ok (.ladd, 1) by decide +kernel) ?_
        obtain ⟨hg, hR⟩ := hR
        refine x_last (pc := 137) rfl (by decide) hg (show decode mX8_goesBack.2.1 137 = .ok (.lastore, 1) by decide +kernel) ?_
        refine x_iconst (pc := 138) (n := 0) (show decode mX8_goesBack.2.1 138 = .ok (.iconst 0, 1) by decide +kernel) ?_
        refine x_istore (pc := 139) (ls' := [some (.inr (.inr 0)), some (.inl x1), some (.inl x2), some (.inl x3), some (.inl x4), some (.inl (xorI x3 (1 * 2 ^ (Int.toNat x4)))), some (.inl 0), none]) (show decode mX8_goesBack.2.1 139 = .ok (.istore 6, 2) by decide +kernel) (by decide) rfl ?_
        exact hR
      · show xG _ _ _ 108 _ [.inl 0] _ _
        refine x_if_ne (pc := 108) (tgt := 114) (show decode mX8_goesBack.2.1 108 = .ok (.ifCond .ne 6, 3) by decide +kernel) (by decide) (by unfold inI; decide) (fun hc => absurd hc (by decide)) (fun _ => ?_)
        refine x_goto (pc := 111) (tgt := 235) (show decode mX8_goesBack.2.1 111 = .ok (.goto 124, 3) by decide +kernel) (by decide) ?_
        refine x_iinc (pc := 235) (ls' := [some (.inr (.inr 0)), some (.inl x1), some (.inl x2), some (.inl x3), some (.inl (x4 + 1)), none, none, none]) (show decode mX8_goesBack.2.1 235 = .ok (.iinc 4 1, 3) by decide +kernel) (by decide) rfl rfl ?_
        refine x_goto (pc := 238) (tgt := 88) (show decode mX8_goesBack.2.1 238 = .ok (.goto (-150), 3) by decide +kernel) (by decide) ?_
        exact hR
set_option maxRecDepth 4000 in
theorem sg_X8_goesBack_141 {d : Nat} {x1 x2 x3 x4 x5 x6 : Int} {h : xH} {Q : xH → Prop} (hd : 1 ≤ d)
    (hR : (inI x6 ∧ inI (h 0 10)) ∧ ((h 0 10) ≤ x6 → gV wdM d mX8_goesBack 88 [some (.inr (.inr 0)), some (.inl x1), some (.inl x2), some (.inl x3), some (.inl (x4 + 1)), none, none, none] h Q) ∧ (x6 < (h 0 10) → (0 ≤ x6 ∧ x6 < 12) ∧ (0 ≤ (35 + (h 8 x6)) ∧ (35 + (h 8 x6)) < 1705) ∧ (0 ≤ x4 ∧ x4 < 12) ∧ (0 ≤ (35 + (h 8 x4)) ∧ (35 + (h 8 x4)) < 1705) ∧ (inI ((h 1 (35 + (h 8 x6))) - (h 1 (35 + (h 8 x4))))) ∧ (0 ≤ ((12 * x5) + x4) ∧ ((12 * x5) + x4) < 49152) ∧ (0 ≤ ((12 * x3) + x6) ∧ ((12 * x3) + x6) < 49152) ∧ (inI (h 9 ((12 * x3) + x6)) ∧ inI ((max ((h 1 (35 + (h 8 x6))) - (h 1 (35 + (h 8 x4)))) (-((h 1 (35 + (h 8 x6))) - (h 1 (35 + (h 8 x4)))))) + (h 9 ((12 * x5) + x4)))) ∧ (0 ≤ ((12 * x3) + x6) ∧ ((12 * x3) + x6) < 49152) ∧ gV wdM d mX8_goesBack 141 [some (.inr (.inr 0)), some (.inl x1), some (.inl x2), some (.inl x3), some (.inl x4), some (.inl x5), some (.inl (x6 + 1)), none] (xu h 9 ((12 * x3) + x6) (min (h 9 ((12 * x3) + x6)) ((max ((h 1 (35 + (h 8 x6))) - (h 1 (35 + (h 8 x4)))) (-((h 1 (35 + (h 8 x6))) - (h 1 (35 + (h 8 x4)))))) + (h 9 ((12 * x5) + x4))))) Q)) :
    gV wdM d mX8_goesBack 141 [some (.inr (.inr 0)), some (.inl x1), some (.inl x2), some (.inl x3), some (.inl x4), some (.inl x5), some (.inl x6), none] h Q := by
  unfold gV
  refine x_iload (pc := 141) (show decode mX8_goesBack.2.1 141 = .ok (.iload 6, 2) by decide +kernel) rfl ?_
  refine x_aload_n (pc := 143) (show decode mX8_goesBack.2.1 143 = .ok (.aload_n 0, 1) by decide +kernel) rfl rfl ?_
  refine x_getI (pc := 144) (ki := 10) f8_164 rfl rfl (by decide) rfl (show decode mX8_goesBack.2.1 144 = .ok (.getfield 164, 3) by decide +kernel) ?_
  obtain ⟨hg, hR⟩ := hR
  refine x_icmp_ge (pc := 147) (tgt := 235) (show decode mX8_goesBack.2.1 147 = .ok (.if_icmp .ge 88, 3) by decide +kernel) (by decide) ⟨hg.1, hg.2⟩ (fun hc => ?_) (fun hc => ?_)
  · replace hR := hR.1 hc
    refine x_iinc (pc := 235) (ls' := [some (.inr (.inr 0)), some (.inl x1), some (.inl x2), some (.inl x3), some (.inl (x4 + 1)), some (.inl x5), some (.inl x6), none]) (show decode mX8_goesBack.2.1 235 = .ok (.iinc 4 1, 3) by decide +kernel) (by decide) rfl rfl ?_
    refine x_goto (pc := 238) (tgt := 88) (show decode mX8_goesBack.2.1 238 = .ok (.goto (-150), 3) by decide +kernel) (by decide) ?_
    exact x_weak (xle_get (by repeat' constructor)) hR
  · replace hR := hR.2 hc
    refine x_aload_n (pc := 150) (show decode mX8_goesBack.2.1 150 = .ok (.aload_n 0, 1) by decide +kernel) rfl rfl ?_
    refine x_getR (pc := 151) f8_11 rfl rfl (show decode mX8_goesBack.2.1 151 = .ok (.getfield 11, 3) by decide +kernel) ?_
    refine x_bipush (pc := 154) (n := 35) (show decode mX8_goesBack.2.1 154 = .ok (.bipush 35, 2) by decide +kernel) rfl ?_
    refine x_aload_n (pc := 156) (show decode mX8_goesBack.2.1 156 = .ok (.aload_n 0, 1) by decide +kernel) rfl rfl ?_
    refine x_getR (pc := 157) f8_34 rfl rfl (show decode mX8_goesBack.2.1 157 = .ok (.getfield 34, 3) by decide +kernel) ?_
    refine x_iload (pc := 160) (show decode mX8_goesBack.2.1 160 = .ok (.iload 6, 2) by decide +kernel) rfl ?_
    obtain ⟨hg, hR⟩ := hR
    refine x_iald (pc := 162) rfl (by decide) hg (show decode mX8_goesBack.2.1 162 = .ok (.iaload, 1) by decide +kernel) ?_
    refine x_iadd (pc := 163) (show decode mX8_goesBack.2.1 163 = .ok (.iadd, 1) by decide +kernel) ?_
    obtain ⟨hg, hR⟩ := hR
    refine x_iald (pc := 164) rfl (by decide) hg (show decode mX8_goesBack.2.1 164 = .ok (.iaload, 1) by decide +kernel) ?_
    refine x_aload_n (pc := 165) (show decode mX8_goesBack.2.1 165 = .ok (.aload_n 0, 1) by decide +kernel) rfl rfl ?_
    refine x_getR (pc := 166) f8_11 rfl rfl (show decode mX8_goesBack.2.1 166 = .ok (.getfield 11, 3) by decide +kernel) ?_
    refine x_bipush (pc := 169) (n := 35) (show decode mX8_goesBack.2.1 169 = .ok (.bipush 35, 2) by decide +kernel) rfl ?_
    refine x_aload_n (pc := 171) (show decode mX8_goesBack.2.1 171 = .ok (.aload_n 0, 1) by decide +kernel) rfl rfl ?_
    refine x_getR (pc := 172) f8_34 rfl rfl (show decode mX8_goesBack.2.1 172 = .ok (.getfield 34, 3) by decide +kernel) ?_
    refine x_iload (pc := 175) (show decode mX8_goesBack.2.1 175 = .ok (.iload 4, 2) by decide +kernel) rfl ?_
    obtain ⟨hg, hR⟩ := hR
    refine x_iald (pc := 177) rfl (by decide) hg (show decode mX8_goesBack.2.1 177 = .ok (.iaload, 1) by decide +kernel) ?_
    refine x_iadd (pc := 178) (show decode mX8_goesBack.2.1 178 = .ok (.iadd, 1) by decide +kernel) ?_
    obtain ⟨hg, hR⟩ := hR
    refine x_iald (pc := 179) rfl (by decide) hg (show decode mX8_goesBack.2.1 179 = .ok (.iaload, 1) by decide +kernel) ?_
    refine x_isub (pc := 180) (show decode mX8_goesBack.2.1 180 = .ok (.isub, 1) by decide +kernel) ?_
    obtain ⟨hg, hR⟩ := hR
    refine x_mabs (pc := 181) (b := 0) (tblG_m6 40 rfl rfl) MA_st M_in MA_cd hg (Nat.le_of_ble_eq_true rfl) hd (show decode mX8_goesBack.2.1 181 = .ok (.invokestatic 176, 3) by decide +kernel) ?_
    refine x_aload_n (pc := 184) (show decode mX8_goesBack.2.1 184 = .ok (.aload_n 0, 1) by decide +kernel) rfl rfl ?_
    refine x_getR (pc := 185) f8_38 rfl rfl (show decode mX8_goesBack.2.1 185 = .ok (.getfield 38, 3) by decide +kernel) ?_
    refine x_bipush (pc := 188) (n := 12) (show decode mX8_goesBack.2.1 188 = .ok (.bipush 12, 2) by decide +kernel) rfl ?_
    refine x_iload (pc := 190) (show decode mX8_goesBack.2.1 190 = .ok (.iload 5, 2) by decide +kernel) rfl ?_
    refine x_imul (pc := 192) (show decode mX8_goesBack.2.1 192 = .ok (.imul, 1) by decide +kernel) ?_
    refine x_iload (pc := 193) (show decode mX8_goesBack.2.1 193 = .ok (.iload 4, 2) by decide +kernel) rfl ?_
    refine x_iadd (pc := 195) (show decode mX8_goesBack.2.1 195 = .ok (.iadd, 1) by decide +kernel) ?_
    obtain ⟨hg, hR⟩ := hR
    refine x_iald (pc := 196) rfl (by decide) hg (show decode mX8_goesBack.2.1 196 = .ok (.iaload, 1) by decide +kernel) ?_
    refine x_iadd (pc := 197) (show decode mX8_goesBack.2.1 197 = .ok (.iadd, 1) by decide +kernel) ?_
    refine x_istore (pc := 198) (ls' := [some (.inr (.inr 0)), some (.inl x1), some (.inl x2), some (.inl x3), some (.inl x4), some (.inl x5), some (.inl x6), some (.inl ((max ((h 1 (35 + (h 8 x6))) - (h 1 (35 + (h 8 x4)))) (-((h 1 (35 + (h 8 x6))) - (h 1 (35 + (h 8 x4)))))) + (h 9 ((12 * x5) + x4))))]) (show decode mX8_goesBack.2.1 198 = .ok (.istore 7, 2) by decide +kernel) (by decide) rfl ?_
    refine x_aload_n (pc := 200) (show decode mX8_goesBack.2.1 200 = .ok (.aload_n 0, 1) by decide +kernel) rfl rfl ?_
    refine x_getR (pc := 201) f8_38 rfl rfl (show decode mX8_goesBack.2.1 201 = .ok (.getfield 38, 3) by decide +kernel) ?_
    refine x_bipush (pc := 204) (n := 12) (show decode mX8_goesBack.2.1 204 = .ok (.bipush 12, 2) by decide +kernel) rfl ?_
    refine x_iload_n (pc := 206) (show decode mX8_goesBack.2.1 206 = .ok (.iload_n 3, 1) by decide +kernel) rfl rfl ?_
    refine x_imul (pc := 207) (show decode mX8_goesBack.2.1 207 = .ok (.imul, 1) by decide +kernel) ?_
    refine x_iload (pc := 208) (show decode mX8_goesBack.2.1 208 = .ok (.iload 6, 2) by decide +kernel) rfl ?_
    refine x_iadd (pc := 210) (show decode mX8_goesBack.2.1 210 = .ok (.iadd, 1) by decide +kernel) ?_
    refine x_aload_n (pc := 211) (show decode mX8_goesBack.2.1 211 = .ok (.aload_n 0, 1) by decide +kernel) rfl rfl ?_
    refine x_getR (pc := 212) f8_38 rfl rfl (show decode mX8_goesBack.2.1 212 = .ok (.getfield 38, 3) by decide +kernel) ?_
    refine x_bipush (pc := 215) (n := 12) (show decode mX8_goesBack.2.1 215 = .ok (.bipush 12, 2) by decide +kernel) rfl ?_
    refine x_iload_n (pc := 217) (show decode mX8_goesBack.2.1 217 = .ok (.iload_n 3, 1) by decide +kernel) rfl rfl ?_
    refine x_imul (pc := 218) (show decode mX8_goesBack.2.1 218 = .ok (.imul, 1) by decide +kernel) ?_
    refine x_iload (pc := 219) (show decode mX8_goesBack.2.1 219 = .ok (.iload 6, 2) by decide +kernel) rfl ?_
    refine x_iadd (pc := 221) (show decode mX8_goesBack.2.1 221 = .ok (.iadd, 1) by decide +kernel) ?_
    obtain ⟨hg, hR⟩ := hR
    refine x_iald (pc := 222) rfl (by decide) hg (show decode mX8_goesBack.2.1 222 = .ok (.iaload, 1) by decide +kernel) ?_
    refine x_iload (pc := 223) (show decode mX8_goesBack.2.1 223 = .ok (.iload 7, 2) by decide +kernel) rfl ?_
    obtain ⟨hg, hR⟩ := hR
    refine x_mmin (pc := 225) (tblG_m6 41 rfl rfl) MN_st M_in MN_cd ⟨hg.1, hg.2⟩ (Nat.le_of_ble_eq_true rfl) hd (show decode mX8_goesBack.2.1 225 = .ok (.invokestatic 180, 3) by decide +kernel) ?_
    obtain ⟨hg, hR⟩ := hR
    refine x_iast (pc := 228) rfl (by decide) hg (show decode mX8_goesBack.2.1 228 = .ok (.iastore, 1) by decide +kernel) ?_
    refine x_iinc (pc := 229) (ls' := [some (.inr (.inr 0)), some (.inl x1), some (.inl x2), some (.inl x3), some (.inl x4), some (.inl x5), some (.inl (x6 + 1)), some (.inl ((max ((h 1 (35 + (h 8 x6))) - (h 1 (35 + (h 8 x4)))) (-((h 1 (35 + (h 8 x6))) - (h 1 (35 + (h 8 x4)))))) + (h 9 ((12 * x5) + x4))))]) (show decode mX8_goesBack.2.1 229 = .ok (.iinc 6 1, 3) by decide +kernel) (by decide) rfl rfl ?_
    refine x_goto (pc := 232) (tgt := 141) (show decode mX8_goesBack.2.1 232 = .ok (.goto (-91), 3) by decide +kernel) (by decide) ?_
    exact x_weak (xle_get (by repeat' constructor)) hR
set_option maxRecDepth 4000 in
theorem sg_X8_orders_0 {d : Nat} {h : xH} {Q : Int → xH → Prop} (hd : 1 ≤ d)
    (hR : cB wdM (d - 1) mX8_areFew [.inr (.inr 0)] h (fun h1 => cV wdM (d - 1) mX8_goesBack [.inr (.inr 0)] h1 (fun h2 => Q (h2 6 0) h2)) (fun h1 => Q (-3) h1)) :
    gL wdM d mX8_orders 0 [some (.inr (.inr 0))] h Q := by
  unfold gL
  refine x_aload_n (pc := 0) (show decode mX8_orders.2.1 0 = .ok (.aload_n 0, 1) by decide +kernel) rfl rfl ?_
  refine x_callV (pc := 1) (As := []) (rest := []) (lk8_183 rfl) im_X8_areFew sl_X8_areFew rfl rfl rfl (Nat.le_of_ble_eq_true rfl) (Nat.le_of_ble_eq_true rfl) (show decode mX8_orders.2.1 1 = .ok (.invokevirtual 183, 3) by decide +kernel) hd hR (fun r9 h1 hq => ?_)
  obtain ⟨r8, rfl, hq⟩ := hq
  rcases hq with ⟨rfl, hR⟩ | ⟨rfl, hR⟩
  · show xG _ _ _ 4 _ [.inl 1] _ _
    refine x_if_ne (pc := 4) (tgt := 11) (show decode mX8_orders.2.1 4 = .ok (.ifCond .ne 7, 3) by decide +kernel) (by decide) (by unfold inI; decide) (fun _ => ?_) (fun hc => absurd hc (by decide))
    refine x_aload_n (pc := 11) (show decode mX8_orders.2.1 11 = .ok (.aload_n 0, 1) by decide +kernel) rfl rfl ?_
    refine x_callV (pc := 12) (As := []) (rest := []) (lk8_188 rfl) im_X8_goesBack sl_X8_goesBack rfl rfl rfl (Nat.le_of_ble_eq_true rfl) (Nat.le_of_ble_eq_true rfl) (show decode mX8_orders.2.1 12 = .ok (.invokevirtual 188, 3) by decide +kernel) hd hR (fun r9 h2 hq => ?_)
    obtain ⟨rfl, hR⟩ := hq
    show xG _ _ _ 15 _ [] _ _
    refine x_aload_n (pc := 15) (show decode mX8_orders.2.1 15 = .ok (.aload_n 0, 1) by decide +kernel) rfl rfl ?_
    refine x_getR (pc := 16) f8_28 rfl rfl (show decode mX8_orders.2.1 16 = .ok (.getfield 28, 3) by decide +kernel) ?_
    refine x_iconst (pc := 19) (n := 0) (show decode mX8_orders.2.1 19 = .ok (.iconst 0, 1) by decide +kernel) ?_
    refine x_lald (pc := 20) rfl (by decide) (by decide) (show decode mX8_orders.2.1 20 = .ok (.laload, 1) by decide +kernel) ?_
    exact x_lret (pc := 21) rfl (show decode mX8_orders.2.1 21 = .ok (.lreturn, 1) by decide +kernel) ⟨_, rfl, hR⟩
  · show xG _ _ _ 4 _ [.inl 0] _ _
    refine x_if_ne (pc := 4) (tgt := 11) (show decode mX8_orders.2.1 4 = .ok (.ifCond .ne 7, 3) by decide +kernel) (by decide) (by unfold inI; decide) (fun hc => absurd hc (by decide)) (fun _ => ?_)
    refine x_ldc2 (pc := 7) (n := (-3)) (tblG_m6 26 rfl rfl) rfl (show decode mX8_orders.2.1 7 = .ok (.ldc2_w 186, 3) by decide +kernel) ?_
    exact x_lret (pc := 10) rfl (show decode mX8_orders.2.1 10 = .ok (.lreturn, 1) by decide +kernel) ⟨_, rfl, hR⟩
set_option maxRecDepth 4000 in
theorem sg_X8_order_0 {d : Nat} {x1 x3 : Int} {h : xH} {Q : Int → xH → Prop} (hd : 1 ≤ d)
    (hR : cB wdM (d - 1) mX8_areFew [.inr (.inr 0)] h (fun h1 => cV wdM (d - 1) mX8_goesBack [.inr (.inr 0)] h1 (fun h2 => (inL x1) ∧ (x1 < 0 → Q (-1) h2) ∧ (0 ≤ x1 → (inI x3) ∧ (x3 < 0 → Q (-1) h2) ∧ (0 ≤ x3 → (inL x1 ∧ inL (h2 6 0)) ∧ ((h2 6 0) ≤ x1 → Q (-1) h2) ∧ (x1 < (h2 6 0) → (inI x3 ∧ inI (h2 0 10)) ∧ (x3 < (h2 0 10) → gI wdM d mX8_order 57 [some (.inr (.inr 0)), none, none, some (.inl x3), some (.inl 0), some (.inr (.inl x1)), none, some (.inl (-1)), some (.inl 0), none] h2 Q) ∧ ((h2 0 10) ≤ x3 → Q (-1) h2)))))) (fun h1 => Q (-3) h1)) :
    gI wdM d mX8_order 0 [some (.inr (.inr 0)), some (.inr (.inl x1)), none, some (.inl x3), none, none, none, none, none, none] h Q := by
  unfold gI
  refine x_aload_n (pc := 0) (show decode mX8_order.2.1 0 = .ok (.aload_n 0, 1) by decide +kernel) rfl rfl ?_
  refine x_callV (pc := 1) (As := []) (rest := []) (lk8_183 rfl) im_X8_areFew sl_X8_areFew rfl rfl rfl (Nat.le_of_ble_eq_true rfl) (Nat.le_of_ble_eq_true rfl) (show decode mX8_order.2.1 1 = .ok (.invokevirtual 183, 3) by decide +kernel) hd hR (fun r9 h1 hq => ?_)
  obtain ⟨r8, rfl, hq⟩ := hq
  rcases hq with ⟨rfl, hR⟩ | ⟨rfl, hR⟩
  · show xG _ _ _ 4 _ [.inl 1] _ _
    refine x_if_ne (pc := 4) (tgt := 10) (show decode mX8_order.2.1 4 = .ok (.ifCond .ne 6, 3) by decide +kernel) (by decide) (by unfold inI; decide) (fun _ => ?_) (fun hc => absurd hc (by decide))
    refine x_aload_n (pc := 10) (show decode mX8_order.2.1 10 = .ok (.aload_n 0, 1) by decide +kernel) rfl rfl ?_
    refine x_callV (pc := 11) (As := []) (rest := []) (lk8_188 rfl) im_X8_goesBack sl_X8_goesBack rfl rfl rfl (Nat.le_of_ble_eq_true rfl) (Nat.le_of_ble_eq_true rfl) (show decode mX8_order.2.1 11 = .ok (.invokevirtual 188, 3) by decide +kernel) hd hR (fun r9 h2 hq => ?_)
    obtain ⟨rfl, hR⟩ := hq
    show xG _ _ _ 14 _ [] _ _
    refine x_lload_n (pc := 14) (show decode mX8_order.2.1 14 = .ok (.lload_n 1, 1) by decide +kernel) rfl rfl ?_
    refine x_lconst (pc := 15) (v := 0) (show decode mX8_order.2.1 15 = .ok (.lconst 0, 1) by decide +kernel) rfl ?_
    obtain ⟨hg, hR⟩ := hR
    refine x_lcmp (pc := 16) (show decode mX8_order.2.1 16 = .ok (.lcmp, 1) by decide +kernel) ⟨hg, (by unfold inL; decide)⟩ ?_
    refine x_if_lt (pc := 17) (tgt := 43) (show decode mX8_order.2.1 17 = .ok (.ifCond .lt 26, 3) by decide +kernel) (by decide) (xcmp_in _ _) (fun hc => ?_) (fun hc => ?_)
    · replace hR := hR.1 (xcmp_lt.mp hc)
      refine x_iconst (pc := 43) (n := (-1)) (show decode mX8_order.2.1 43 = .ok (.iconst (-1), 1) by decide +kernel) ?_
      exact x_iret (pc := 44) rfl (show decode mX8_order.2.1 44 = .ok (.ireturn, 1) by decide +kernel) ⟨_, rfl, hR⟩
    · replace hR := hR.2 (xcmp_ge.mp hc)
      refine x_iload_n (pc := 20) (show decode mX8_order.2.1 20 = .ok (.iload_n 3, 1) by decide +kernel) rfl rfl ?_
      obtain ⟨hg, hR⟩ := hR
      refine x_if_lt (pc := 21) (tgt := 43) (show decode mX8_order.2.1 21 = .ok (.ifCond .lt 22, 3) by decide +kernel) (by decide) hg (fun hc => ?_) (fun hc => ?_)
      · replace hR := hR.1 hc
        refine x_iconst (pc := 43) (n := (-1)) (show decode mX8_order.2.1 43 = .ok (.iconst (-1), 1) by decide +kernel) ?_
        exact x_iret (pc := 44) rfl (show decode mX8_order.2.1 44 = .ok (.ireturn, 1) by decide +kernel) ⟨_, rfl, hR⟩
      · replace hR := hR.2 hc
        refine x_lload_n (pc := 24) (show decode mX8_order.2.1 24 = .ok (.lload_n 1, 1) by decide +kernel) rfl rfl ?_
        refine x_aload_n (pc := 25) (show decode mX8_order.2.1 25 = .ok (.aload_n 0, 1) by decide +kernel) rfl rfl ?_
        refine x_getR (pc := 26) f8_28 rfl rfl (show decode mX8_order.2.1 26 = .ok (.getfield 28, 3) by decide +kernel) ?_
        refine x_iconst (pc := 29) (n := 0) (show decode mX8_order.2.1 29 = .ok (.iconst 0, 1) by decide +kernel) ?_
        refine x_lald (pc := 30) rfl (by decide) (by decide) (show decode mX8_order.2.1 30 = .ok (.laload, 1) by decide +kernel) ?_
        obtain ⟨hg, hR⟩ := hR
        refine x_lcmp (pc := 31) (show decode mX8_order.2.1 31 = .ok (.lcmp, 1) by decide +kernel) ⟨hg.1, hg.2⟩ ?_
        refine x_if_ge (pc := 32) (tgt := 43) (show decode mX8_order.2.1 32 = .ok (.ifCond .ge 11, 3) by decide +kernel) (by decide) (xcmp_in _ _) (fun hc => ?_) (fun hc => ?_)
        · replace hR := hR.1 (xcmp_ge.mp hc)
          refine x_iconst (pc := 43) (n := (-1)) (show decode mX8_order.2.1 43 = .ok (.iconst (-1), 1) by decide +kernel) ?_
          exact x_iret (pc := 44) rfl (show decode mX8_order.2.1 44 = .ok (.ireturn, 1) by decide +kernel) ⟨_, rfl, hR⟩
        · replace hR := hR.2 (xcmp_lt.mp hc)
          refine x_iload_n (pc := 35) (show decode mX8_order.2.1 35 = .ok (.iload_n 3, 1) by decide +kernel) rfl rfl ?_
          refine x_aload_n (pc := 36) (show decode mX8_order.2.1 36 = .ok (.aload_n 0, 1) by decide +kernel) rfl rfl ?_
          refine x_getI (pc := 37) (ki := 10) f8_164 rfl rfl (by decide) rfl (show decode mX8_order.2.1 37 = .ok (.getfield 164, 3) by decide +kernel) ?_
          obtain ⟨hg, hR⟩ := hR
          refine x_icmp_lt (pc := 40) (tgt := 45) (show decode mX8_order.2.1 40 = .ok (.if_icmp .lt 5, 3) by decide +kernel) (by decide) ⟨hg.1, hg.2⟩ (fun hc => ?_) (fun hc => ?_)
          · replace hR := hR.1 hc
            refine x_iconst (pc := 45) (n := 0) (show decode mX8_order.2.1 45 = .ok (.iconst 0, 1) by decide +kernel) ?_
            refine x_istore (pc := 46) (ls' := [some (.inr (.inr 0)), some (.inr (.inl x1)), none, some (.inl x3), some (.inl 0), none, none, none, none, none]) (show decode mX8_order.2.1 46 = .ok (.istore 4, 2) by decide +kernel) (by decide) rfl ?_
            refine x_lload_n (pc := 48) (show decode mX8_order.2.1 48 = .ok (.lload_n 1, 1) by decide +kernel) rfl rfl ?_
            refine x_lstore (pc := 49) (ls' := [some (.inr (.inr 0)), some (.inr (.inl x1)), none, some (.inl x3), some (.inl 0), some (.inr (.inl x1)), none, none, none, none]) (show decode mX8_order.2.1 49 = .ok (.lstore 5, 2) by decide +kernel) (by decide) rfl ?_
            refine x_iconst (pc := 51) (n := (-1)) (show decode mX8_order.2.1 51 = .ok (.iconst (-1), 1) by decide +kernel) ?_
            refine x_istore (pc := 52) (ls' := [some (.inr (.inr 0)), some (.inr (.inl x1)), none, some (.inl x3), some (.inl 0), some (.inr (.inl x1)), none, some (.inl (-1)), none, none]) (show decode mX8_order.2.1 52 = .ok (.istore 7, 2) by decide +kernel) (by decide) rfl ?_
            refine x_iconst (pc := 54) (n := 0) (show decode mX8_order.2.1 54 = .ok (.iconst 0, 1) by decide +kernel) ?_
            refine x_istore (pc := 55) (ls' := [some (.inr (.inr 0)), some (.inr (.inl x1)), none, some (.inl x3), some (.inl 0), some (.inr (.inl x1)), none, some (.inl (-1)), some (.inl 0), none]) (show decode mX8_order.2.1 55 = .ok (.istore 8, 2) by decide +kernel) (by decide) rfl ?_
            exact x_weak (xle_get (by repeat' constructor)) hR
          · replace hR := hR.2 hc
            refine x_iconst (pc := 43) (n := (-1)) (show decode mX8_order.2.1 43 = .ok (.iconst (-1), 1) by decide +kernel) ?_
            exact x_iret (pc := 44) rfl (show decode mX8_order.2.1 44 = .ok (.ireturn, 1) by decide +kernel) ⟨_, rfl, hR⟩
  · show xG _ _ _ 4 _ [.inl 0] _ _
    refine x_if_ne (pc := 4) (tgt := 10) (show decode mX8_order.2.1 4 = .ok (.ifCond .ne 6, 3) by decide +kernel) (by decide) (by unfold inI; decide) (fun hc => absurd hc (by decide)) (fun _ => ?_)
    refine x_bipush (pc := 7) (n := (-3)) (show decode mX8_order.2.1 7 = .ok (.bipush (-3), 2) by decide +kernel) rfl ?_
    exact x_iret (pc := 9) rfl (show decode mX8_order.2.1 9 = .ok (.ireturn, 1) by decide +kernel) ⟨_, rfl, hR⟩
set_option maxRecDepth 4000 in
theorem sg_X8_order_57 {d : Nat} {x3 x4 x5 x7 x8 : Int} {h : xH} {Q : Int → xH → Prop}
    (hR : (inI x8 ∧ inI x3) ∧ (x3 < x8 → Q x7 h) ∧ (x8 ≤ x3 → gI wdM d mX8_order 66 [some (.inr (.inr 0)), none, none, some (.inl x3), some (.inl x4), some (.inr (.inl x5)), none, none, some (.inl x8), some (.inl 0)] h Q)) :
    gI wdM d mX8_order 57 [some (.inr (.inr 0)), none, none, some (.inl x3), some (.inl x4), some (.inr (.inl x5)), none, some (.inl x7), some (.inl x8), none] h Q := by
  unfold gI
  refine x_iload (pc := 57) (show decode mX8_order.2.1 57 = .ok (.iload 8, 2) by decide +kernel) rfl ?_
  refine x_iload_n (pc := 59) (show decode mX8_order.2.1 59 = .ok (.iload_n 3, 1) by decide +kernel) rfl rfl ?_
  obtain ⟨hg, hR⟩ := hR
  refine x_icmp_gt (pc := 60) (tgt := 153) (show decode mX8_order.2.1 60 = .ok (.if_icmp .gt 93, 3) by decide +kernel) (by decide) ⟨hg.1, hg.2⟩ (fun hc => ?_) (fun hc => ?_)
  · replace hR := hR.1 hc
    refine x_iload (pc := 153) (show decode mX8_order.2.1 153 = .ok (.iload 7, 2) by decide +kernel) rfl ?_
    exact x_iret (pc := 155) rfl (show decode mX8_order.2.1 155 = .ok (.ireturn, 1) by decide +kernel) ⟨_, rfl, hR⟩
  · replace hR := hR.2 hc
    refine x_iconst (pc := 63) (n := 0) (show decode mX8_order.2.1 63 = .ok (.iconst 0, 1) by decide +kernel) ?_
    refine x_istore (pc := 64) (ls' := [some (.inr (.inr 0)), none, none, some (.inl x3), some (.inl x4), some (.inr (.inl x5)), none, some (.inl x7), some (.inl x8), some (.inl 0)]) (show decode mX8_order.2.1 64 = .ok (.istore 9, 2) by decide +kernel) (by decide) rfl ?_
    exact x_weak (xle_get (by repeat' constructor)) hR
set_option maxRecDepth 4000 in
theorem sg_X8_order_66 {d : Nat} {x3 x4 x5 x8 x9 : Int} {h : xH} {Q : Int → xH → Prop} (hd : 1 ≤ d)
    (hR : cB wdM (d - 1) mX8_mayCome [.inr (.inr 0), .inl x9, .inl x4] h (fun h1 => (0 ≤ x9 ∧ x9 ≤ 31) ∧ (0 ≤ (xorI x4 (1 * 2 ^ (Int.toNat x9))) ∧ (xorI x4 (1 * 2 ^ (Int.toNat x9))) < 4096) ∧ (inL x5 ∧ inL (h1 6 (xorI x4 (1 * 2 ^ (Int.toNat x9))))) ∧ (x5 < (h1 6 (xorI x4 (1 * 2 ^ (Int.toNat x9)))) → (0 ≤ x9 ∧ x9 ≤ 31) ∧ (0 ≤ x9 ∧ x9 < 12) ∧ gI wdM d mX8_order 57 [some (.inr (.inr 0)), none, none, some (.inl x3), some (.inl (xorI x4 (1 * 2 ^ (Int.toNat x9)))), some (.inr (.inl x5)), none, some (.inl (h1 8 x9)), some (.inl (x8 + 1)), none] h1 Q) ∧ ((h1 6 (xorI x4 (1 * 2 ^ (Int.toNat x9)))) ≤ x5 → cB wdM (d - 1) mX8_mayCome [.inr (.inr 0), .inl x9, .inl x4] h1 (fun h2 => (0 ≤ x9 ∧ x9 ≤ 31) ∧ (0 ≤ (xorI x4 (1 * 2 ^ (Int.toNat x9))) ∧ (xorI x4 (1 * 2 ^ (Int.toNat x9))) < 4096) ∧ gI wdM d mX8_order 66 [some (.inr (.inr 0)), none, none, some (.inl x3), some (.inl x4), some (.inr (.inl (x5 - (h2 6 (xorI x4 (1 * 2 ^ (Int.toNat x9))))))), none, none, some (.inl x8), some (.inl (x9 + 1))] h2 Q) (fun h2 => gI wdM d mX8_order 66 [some (.inr (.inr 0)), none, none, some (.inl x3), some (.inl x4), some (.inr (.inl x5)), none, none, some (.inl x8), some (.inl (x9 + 1))] h2 Q))) (fun h1 => cB wdM (d - 1) mX8_mayCome [.inr (.inr 0), .inl x9, .inl x4] h1 (fun h3 => (0 ≤ x9 ∧ x9 ≤ 31) ∧ (0 ≤ (xorI x4 (1 * 2 ^ (Int.toNat x9))) ∧ (xorI x4 (1 * 2 ^ (Int.toNat x9))) < 4096) ∧ gI wdM d mX8_order 66 [some (.inr (.inr 0)), none, none, some (.inl x3), some (.inl x4), some (.inr (.inl (x5 - (h3 6 (xorI x4 (1 * 2 ^ (Int.toNat x9))))))), none, none, some (.inl x8), some (.inl (x9 + 1))] h3 Q) (fun h3 => gI wdM d mX8_order 66 [some (.inr (.inr 0)), none, none, some (.inl x3), some (.inl x4), some (.inr (.inl x5)), none, none, some (.inl x8), some (.inl (x9 + 1))] h3 Q))) :
    gI wdM d mX8_order 66 [some (.inr (.inr 0)), none, none, some (.inl x3), some (.inl x4), some (.inr (.inl x5)), none, none, some (.inl x8), some (.inl x9)] h Q := by
  unfold gI
  refine x_aload_n (pc := 66) (show decode mX8_order.2.1 66 = .ok (.aload_n 0, 1) by decide +kernel) rfl rfl ?_
  refine x_iload (pc := 67) (show decode mX8_order.2.1 67 = .ok (.iload 9, 2) by decide +kernel) rfl ?_
  refine x_iload (pc := 69) (show decode mX8_order.2.1 69 = .ok (.iload 4, 2) by decide +kernel) rfl ?_
  refine x_callV (pc := 71) (As := [.inl x9, .inl x4]) (rest := []) (lk8_173 rfl) im_X8_mayCome sl_X8_mayCome rfl rfl rfl (Nat.le_of_ble_eq_true rfl) (Nat.le_of_ble_eq_true rfl) (show decode mX8_order.2.1 71 = .ok (.invokevirtual 173, 3) by decide +kernel) hd hR (fun r9 h1 hq => ?_)
  obtain ⟨r8, rfl, hq⟩ := hq
  rcases hq with ⟨rfl, hR⟩ | ⟨rfl, hR⟩
  · show xG _ _ _ 74 _ [.inl 1] _ _
    refine x_if_eq (pc := 74) (tgt := 95) (show decode mX8_order.2.1 74 = .ok (.ifCond .eq 21, 3) by decide +kernel) (by decide) (by unfold inI; decide) (fun hc => absurd hc (by decide)) (fun _ => ?_)
    refine x_lload (pc := 77) (show decode mX8_order.2.1 77 = .ok (.lload 5, 2) by decide +kernel) rfl ?_
    refine x_aload_n (pc := 79) (show decode mX8_order.2.1 79 = .ok (.aload_n 0, 1) by decide +kernel) rfl rfl ?_
    refine x_getR (pc := 80) f8_28 rfl rfl (show decode mX8_order.2.1 80 = .ok (.getfield 28, 3) by decide +kernel) ?_
    refine x_iload (pc := 83) (show decode mX8_order.2.1 83 = .ok (.iload 4, 2) by decide +kernel) rfl ?_
    refine x_iconst (pc := 85) (n := 1) (show decode mX8_order.2.1 85 = .ok (.iconst 1, 1) by decide +kernel) ?_
    refine x_iload (pc := 86) (show decode mX8_order.2.1 86 = .ok (.iload 9, 2) by decide +kernel) rfl ?_
    obtain ⟨hg, hR⟩ := hR
    refine x_ishl (pc := 88) (show decode mX8_order.2.1 88 = .ok (.ishl, 1) by decide +kernel) hg ?_
    refine x_ior (pc := 89) (show decode mX8_order.2.1 89 = .ok (.ior, 1) by decide +kernel) ?_
    obtain ⟨hg, hR⟩ := hR
    refine x_lald (pc := 90) rfl (by decide) hg (show decode mX8_order.2.1 90 = .ok (.laload, 1) by decide +kernel) ?_
    obtain ⟨hg, hR⟩ := hR
    refine x_lcmp (pc := 91) (show decode mX8_order.2.1 91 = .ok (.lcmp, 1) by decide +kernel) ⟨hg.1, hg.2⟩ ?_
    refine x_if_lt (pc := 92) (tgt := 129) (show decode mX8_order.2.1 92 = .ok (.ifCond .lt 37, 3) by decide +kernel) (by decide) (xcmp_in _ _) (fun hc => ?_) (fun hc => ?_)
    · replace hR := hR.1 (xcmp_lt.mp hc)
      refine x_iload (pc := 129) (show decode mX8_order.2.1 129 = .ok (.iload 4, 2) by decide +kernel) rfl ?_
      refine x_iconst (pc := 131) (n := 1) (show decode mX8_order.2.1 131 = .ok (.iconst 1, 1) by decide +kernel) ?_
      refine x_iload (pc := 132) (show decode mX8_order.2.1 132 = .ok (.iload 9, 2) by decide +kernel) rfl ?_
      obtain ⟨hg, hR⟩ := hR
      refine x_ishl (pc := 134) (show decode mX8_order.2.1 134 = .ok (.ishl, 1) by decide +kernel) hg ?_
      refine x_ior (pc := 135) (show decode mX8_order.2.1 135 = .ok (.ior, 1) by decide +kernel) ?_
      refine x_istore (pc := 136) (ls' := [some (.inr (.inr 0)), none, none, some (.inl x3), some (.inl (xorI x4 (1 * 2 ^ (Int.toNat x9)))), some (.inr (.inl x5)), none, none, some (.inl x8), some (.inl x9)]) (show decode mX8_order.2.1 136 = .ok (.istore 4, 2) by decide +kernel) (by decide) rfl ?_
      refine x_aload_n (pc := 138) (show decode mX8_order.2.1 138 = .ok (.aload_n 0, 1) by decide +kernel) rfl rfl ?_
      refine x_getR (pc := 139) f8_34 rfl rfl (show decode mX8_order.2.1 139 = .ok (.getfield 34, 3) by decide +kernel) ?_
      refine x_iload (pc := 142) (show decode mX8_order.2.1 142 = .ok (.iload 9, 2) by decide +kernel) rfl ?_
      obtain ⟨hg, hR⟩ := hR
      refine x_iald (pc := 144) rfl (by decide) hg (show decode mX8_order.2.1 144 = .ok (.iaload, 1) by decide +kernel) ?_
      refine x_istore (pc := 145) (ls' := [some (.inr (.inr 0)), none, none, some (.inl x3), some (.inl (xorI x4 (1 * 2 ^ (Int.toNat x9)))), some (.inr (.inl x5)), none, some (.inl (h1 8 x9)), some (.inl x8), some (.inl x9)]) (show decode mX8_order.2.1 145 = .ok (.istore 7, 2) by decide +kernel) (by decide) rfl ?_
      refine x_iinc (pc := 147) (ls' := [some (.inr (.inr 0)), none, none, some (.inl x3), some (.inl (xorI x4 (1 * 2 ^ (Int.toNat x9)))), some (.inr (.inl x5)), none, some (.inl (h1 8 x9)), some (.inl (x8 + 1)), some (.inl x9)]) (show decode mX8_order.2.1 147 = .ok (.iinc 8 1, 3) by decide +kernel) (by decide) rfl rfl ?_
      refine x_goto (pc := 150) (tgt := 57) (show decode mX8_order.2.1 150 = .ok (.goto (-93), 3) by decide +kernel) (by decide) ?_
      exact x_weak (xle_get (by repeat' constructor)) hR
    · replace hR := hR.2 (xcmp_ge.mp hc)
      refine x_aload_n (pc := 95) (show decode mX8_order.2.1 95 = .ok (.aload_n 0, 1) by decide +kernel) rfl rfl ?_
      refine x_iload (pc := 96) (show decode mX8_order.2.1 96 = .ok (.iload 9, 2) by decide +kernel) rfl ?_
      refine x_iload (pc := 98) (show decode mX8_order.2.1 98 = .ok (.iload 4, 2) by decide +kernel) rfl ?_
      refine x_callV (pc := 100) (As := [.inl x9, .inl x4]) (rest := []) (lk8_173 rfl) im_X8_mayCome sl_X8_mayCome rfl rfl rfl (Nat.le_of_ble_eq_true rfl) (Nat.le_of_ble_eq_true rfl) (show decode mX8_order.2.1 100 = .ok (.invokevirtual 173, 3) by decide +kernel) hd hR (fun r9 h2 hq => ?_)
      obtain ⟨r8, rfl, hq⟩ := hq
      rcases hq with ⟨rfl, hR⟩ | ⟨rfl, hR⟩
      · show xG _ _ _ 103 _ [.inl 1] _ _
        refine x_if_eq (pc := 103) (tgt := 123) (show decode mX8_order.2.1 103 = .ok (.ifCond .eq 20, 3) by decide +kernel) (by decide) (by unfold inI; decide) (fun hc => absurd hc (by decide)) (fun _ => ?_)
        refine x_lload (pc := 106) (show decode mX8_order.2.1 106 = .ok (.lload 5, 2) by decide +kernel) rfl ?_
        refine x_aload_n (pc := 108) (show decode mX8_order.2.1 108 = .ok (.aload_n 0, 1) by decide +kernel) rfl rfl ?_
        refine x_getR (pc := 109) f8_28 rfl rfl (show decode mX8_order.2.1 109 = .ok (.getfield 28, 3) by decide +kernel) ?_
        refine x_iload (pc := 112) (show decode mX8_order.2.1 112 = .ok (.iload 4, 2) by decide +kernel) rfl ?_
        refine x_iconst (pc := 114) (n := 1) (show decode mX8_order.2.1 114 = .ok (.iconst 1, 1) by decide +kernel) ?_
        refine x_iload (pc := 115) (show decode mX8_order.2.1 115 = .ok (.iload 9, 2) by decide +kernel) rfl ?_
        obtain ⟨hg, hR⟩ := hR
        refine x_ishl (pc := 117) (show decode mX8_order.2.1 117 = .ok (.ishl, 1) by decide +kernel) hg ?_
        refine x_ior (pc := 118) (show decode mX8_order.2.1 118 = .ok (.ior, 1) by decide +kernel) ?_
        obtain ⟨hg, hR⟩ := hR
        refine x_lald (pc := 119) rfl (by decide) hg (show decode mX8_order.2.1 119 = .ok (.laload, 1) by decide +kernel) ?_
        refine x_lsub (pc := 120) (show decode mX8_order.2.1 120 = .ok (.lsub, 1) by decide +kernel) ?_
        refine x_lstore (pc := 121) (ls' := [some (.inr (.inr 0)), none, none, some (.inl x3), some (.inl x4), some (.inr (.inl (x5 - (h2 6 (xorI x4 (1 * 2 ^ (Int.toNat x9))))))), none, none, some (.inl x8), some (.inl x9)]) (show decode mX8_order.2.1 121 = .ok (.lstore 5, 2) by decide +kernel) (by decide) rfl ?_
        refine x_iinc (pc := 123) (ls' := [some (.inr (.inr 0)), none, none, some (.inl x3), some (.inl x4), some (.inr (.inl (x5 - (h2 6 (xorI x4 (1 * 2 ^ (Int.toNat x9))))))), none, none, some (.inl x8), some (.inl (x9 + 1))]) (show decode mX8_order.2.1 123 = .ok (.iinc 9 1, 3) by decide +kernel) (by decide) rfl rfl ?_
        refine x_goto (pc := 126) (tgt := 66) (show decode mX8_order.2.1 126 = .ok (.goto (-60), 3) by decide +kernel) (by decide) ?_
        exact hR
      · show xG _ _ _ 103 _ [.inl 0] _ _
        refine x_if_eq (pc := 103) (tgt := 123) (show decode mX8_order.2.1 103 = .ok (.ifCond .eq 20, 3) by decide +kernel) (by decide) (by unfold inI; decide) (fun _ => ?_) (fun hc => absurd hc (by decide))
        refine x_iinc (pc := 123) (ls' := [some (.inr (.inr 0)), none, none, some (.inl x3), some (.inl x4), some (.inr (.inl x5)), none, none, some (.inl x8), some (.inl (x9 + 1))]) (show decode mX8_order.2.1 123 = .ok (.iinc 9 1, 3) by decide +kernel) (by decide) rfl rfl ?_
        refine x_goto (pc := 126) (tgt := 66) (show decode mX8_order.2.1 126 = .ok (.goto (-60), 3) by decide +kernel) (by decide) ?_
        exact hR
  · show xG _ _ _ 74 _ [.inl 0] _ _
    refine x_if_eq (pc := 74) (tgt := 95) (show decode mX8_order.2.1 74 = .ok (.ifCond .eq 21, 3) by decide +kernel) (by decide) (by unfold inI; decide) (fun _ => ?_) (fun hc => absurd hc (by decide))
    refine x_aload_n (pc := 95) (show decode mX8_order.2.1 95 = .ok (.aload_n 0, 1) by decide +kernel) rfl rfl ?_
    refine x_iload (pc := 96) (show decode mX8_order.2.1 96 = .ok (.iload 9, 2) by decide +kernel) rfl ?_
    refine x_iload (pc := 98) (show decode mX8_order.2.1 98 = .ok (.iload 4, 2) by decide +kernel) rfl ?_
    refine x_callV (pc := 100) (As := [.inl x9, .inl x4]) (rest := []) (lk8_173 rfl) im_X8_mayCome sl_X8_mayCome rfl rfl rfl (Nat.le_of_ble_eq_true rfl) (Nat.le_of_ble_eq_true rfl) (show decode mX8_order.2.1 100 = .ok (.invokevirtual 173, 3) by decide +kernel) hd hR (fun r9 h3 hq => ?_)
    obtain ⟨r8, rfl, hq⟩ := hq
    rcases hq with ⟨rfl, hR⟩ | ⟨rfl, hR⟩
    · show xG _ _ _ 103 _ [.inl 1] _ _
      refine x_if_eq (pc := 103) (tgt := 123) (show decode mX8_order.2.1 103 = .ok (.ifCond .eq 20, 3) by decide +kernel) (by decide) (by unfold inI; decide) (fun hc => absurd hc (by decide)) (fun _ => ?_)
      refine x_lload (pc := 106) (show decode mX8_order.2.1 106 = .ok (.lload 5, 2) by decide +kernel) rfl ?_
      refine x_aload_n (pc := 108) (show decode mX8_order.2.1 108 = .ok (.aload_n 0, 1) by decide +kernel) rfl rfl ?_
      refine x_getR (pc := 109) f8_28 rfl rfl (show decode mX8_order.2.1 109 = .ok (.getfield 28, 3) by decide +kernel) ?_
      refine x_iload (pc := 112) (show decode mX8_order.2.1 112 = .ok (.iload 4, 2) by decide +kernel) rfl ?_
      refine x_iconst (pc := 114) (n := 1) (show decode mX8_order.2.1 114 = .ok (.iconst 1, 1) by decide +kernel) ?_
      refine x_iload (pc := 115) (show decode mX8_order.2.1 115 = .ok (.iload 9, 2) by decide +kernel) rfl ?_
      obtain ⟨hg, hR⟩ := hR
      refine x_ishl (pc := 117) (show decode mX8_order.2.1 117 = .ok (.ishl, 1) by decide +kernel) hg ?_
      refine x_ior (pc := 118) (show decode mX8_order.2.1 118 = .ok (.ior, 1) by decide +kernel) ?_
      obtain ⟨hg, hR⟩ := hR
      refine x_lald (pc := 119) rfl (by decide) hg (show decode mX8_order.2.1 119 = .ok (.laload, 1) by decide +kernel) ?_
      refine x_lsub (pc := 120) (show decode mX8_order.2.1 120 = .ok (.lsub, 1) by decide +kernel) ?_
      refine x_lstore (pc := 121) (ls' := [some (.inr (.inr 0)), none, none, some (.inl x3), some (.inl x4), some (.inr (.inl (x5 - (h3 6 (xorI x4 (1 * 2 ^ (Int.toNat x9))))))), none, none, some (.inl x8), some (.inl x9)]) (show decode mX8_order.2.1 121 = .ok (.lstore 5, 2) by decide +kernel) (by decide) rfl ?_
      refine x_iinc (pc := 123) (ls' := [some (.inr (.inr 0)), none, none, some (.inl x3), some (.inl x4), some (.inr (.inl (x5 - (h3 6 (xorI x4 (1 * 2 ^ (Int.toNat x9))))))), none, none, some (.inl x8), some (.inl (x9 + 1))]) (show decode mX8_order.2.1 123 = .ok (.iinc 9 1, 3) by decide +kernel) (by decide) rfl rfl ?_
      refine x_goto (pc := 126) (tgt := 66) (show decode mX8_order.2.1 126 = .ok (.goto (-60), 3) by decide +kernel) (by decide) ?_
      exact hR
    · show xG _ _ _ 103 _ [.inl 0] _ _
      refine x_if_eq (pc := 103) (tgt := 123) (show decode mX8_order.2.1 103 = .ok (.ifCond .eq 20, 3) by decide +kernel) (by decide) (by unfold inI; decide) (fun _ => ?_) (fun hc => absurd hc (by decide))
      refine x_iinc (pc := 123) (ls' := [some (.inr (.inr 0)), none, none, some (.inl x3), some (.inl x4), some (.inr (.inl x5)), none, none, some (.inl x8), some (.inl (x9 + 1))]) (show decode mX8_order.2.1 123 = .ok (.iinc 9 1, 3) by decide +kernel) (by decide) rfl rfl ?_
      refine x_goto (pc := 126) (tgt := 66) (show decode mX8_order.2.1 126 = .ok (.goto (-60), 3) by decide +kernel) (by decide) ?_
      exact hR
set_option maxRecDepth 4000 in
theorem sg_X8_farFrom_0 {d : Nat} {x1 x2 x3 : Int} {h : xH} {Q : Int → xH → Prop} (hd : 1 ≤ d)
    (hR : (0 ≤ x3 ∧ x3 < 12) ∧ (0 ≤ (35 + (h 8 x3)) ∧ (35 + (h 8 x3)) < 1705) ∧ (inI ((h 1 (35 + (h 8 x3))) - x1)) ∧ (0 ≤ x3 ∧ x3 ≤ 31) ∧ (0 ≤ ((12 * (xorI x2 (1 * 2 ^ (Int.toNat x3)))) + x3) ∧ ((12 * (xorI x2 (1 * 2 ^ (Int.toNat x3)))) + x3) < 49152) ∧ Q ((max ((h 1 (35 + (h 8 x3))) - x1) (-((h 1 (35 + (h 8 x3))) - x1))) + (h 9 ((12 * (xorI x2 (1 * 2 ^ (Int.toNat x3)))) + x3))) h) :
    gI wdM d mX8_farFrom 0 [some (.inr (.inr 0)), some (.inl x1), some (.inl x2), some (.inl x3)] h Q := by
  unfold gI
  refine x_aload_n (pc := 0) (show decode mX8_farFrom.2.1 0 = .ok (.aload_n 0, 1) by decide +kernel) rfl rfl ?_
  refine x_getR (pc := 1) f8_11 rfl rfl (show decode mX8_farFrom.2.1 1 = .ok (.getfield 11, 3) by decide +kernel) ?_
  refine x_bipush (pc := 4) (n := 35) (show decode mX8_farFrom.2.1 4 = .ok (.bipush 35, 2) by decide +kernel) rfl ?_
  refine x_aload_n (pc := 6) (show decode mX8_farFrom.2.1 6 = .ok (.aload_n 0, 1) by decide +kernel) rfl rfl ?_
  refine x_getR (pc := 7) f8_34 rfl rfl (show decode mX8_farFrom.2.1 7 = .ok (.getfield 34, 3) by decide +kernel) ?_
  refine x_iload_n (pc := 10) (show decode mX8_farFrom.2.1 10 = .ok (.iload_n 3, 1) by decide +kernel) rfl rfl ?_
  obtain ⟨hg, hR⟩ := hR
  refine x_iald (pc := 11) rfl (by decide) hg (show decode mX8_farFrom.2.1 11 = .ok (.iaload, 1) by decide +kernel) ?_
  refine x_iadd (pc := 12) (show decode mX8_farFrom.2.1 12 = .ok (.iadd, 1) by decide +kernel) ?_
  obtain ⟨hg, hR⟩ := hR
  refine x_iald (pc := 13) rfl (by decide) hg (show decode mX8_farFrom.2.1 13 = .ok (.iaload, 1) by decide +kernel) ?_
  refine x_iload_n (pc := 14) (show decode mX8_farFrom.2.1 14 = .ok (.iload_n 1, 1) by decide +kernel) rfl rfl ?_
  refine x_isub (pc := 15) (show decode mX8_farFrom.2.1 15 = .ok (.isub, 1) by decide +kernel) ?_
  obtain ⟨hg, hR⟩ := hR
  refine x_mabs (pc := 16) (b := 0) (tblG_m6 40 rfl rfl) MA_st M_in MA_cd hg (Nat.le_of_ble_eq_true rfl) hd (show decode mX8_farFrom.2.1 16 = .ok (.invokestatic 176, 3) by decide +kernel) ?_
  refine x_aload_n (pc := 19) (show decode mX8_farFrom.2.1 19 = .ok (.aload_n 0, 1) by decide +kernel) rfl rfl ?_
  refine x_getR (pc := 20) f8_38 rfl rfl (show decode mX8_farFrom.2.1 20 = .ok (.getfield 38, 3) by decide +kernel) ?_
  refine x_bipush (pc := 23) (n := 12) (show decode mX8_farFrom.2.1 23 = .ok (.bipush 12, 2) by decide +kernel) rfl ?_
  refine x_iload_n (pc := 25) (show decode mX8_farFrom.2.1 25 = .ok (.iload_n 2, 1) by decide +kernel) rfl rfl ?_
  refine x_iconst (pc := 26) (n := 1) (show decode mX8_farFrom.2.1 26 = .ok (.iconst 1, 1) by decide +kernel) ?_
  refine x_iload_n (pc := 27) (show decode mX8_farFrom.2.1 27 = .ok (.iload_n 3, 1) by decide +kernel) rfl rfl ?_
  obtain ⟨hg, hR⟩ := hR
  refine x_ishl (pc := 28) (show decode mX8_farFrom.2.1 28 = .ok (.ishl, 1) by decide +kernel) hg ?_
  refine x_ior (pc := 29) (show decode mX8_farFrom.2.1 29 = .ok (.ior, 1) by decide +kernel) ?_
  refine x_imul (pc := 30) (show decode mX8_farFrom.2.1 30 = .ok (.imul, 1) by decide +kernel) ?_
  refine x_iload_n (pc := 31) (show decode mX8_farFrom.2.1 31 = .ok (.iload_n 3, 1) by decide +kernel) rfl rfl ?_
  refine x_iadd (pc := 32) (show decode mX8_farFrom.2.1 32 = .ok (.iadd, 1) by decide +kernel) ?_
  obtain ⟨hg, hR⟩ := hR
  refine x_iald (pc := 33) rfl (by decide) hg (show decode mX8_farFrom.2.1 33 = .ok (.iaload, 1) by decide +kernel) ?_
  refine x_iadd (pc := 34) (show decode mX8_farFrom.2.1 34 = .ok (.iadd, 1) by decide +kernel) ?_
  exact x_iret (pc := 35) rfl (show decode mX8_farFrom.2.1 35 = .ok (.ireturn, 1) by decide +kernel) ⟨_, rfl, hR⟩
set_option maxRecDepth 4000 in
theorem sg_X8_leastFrom_0 {d : Nat} {x1 x2 : Int} {h : xH} {Q : Int → xH → Prop}
    (hR : (0 ≤ (h 0 10) ∧ (h 0 10) ≤ 31) ∧ (inI x2 ∧ inI ((1 * 2 ^ (Int.toNat (h 0 10))) - 1)) ∧ (¬ x2 = ((1 * 2 ^ (Int.toNat (h 0 10))) - 1) → gI wdM d mX8_leastFrom 22 [some (.inr (.inr 0)), some (.inl x1), some (.inl x2), some (.inl 1000000), some (.inl 0)] h Q) ∧ (x2 = ((1 * 2 ^ (Int.toNat (h 0 10))) - 1) → gI wdM d mX8_leastFrom 22 [some (.inr (.inr 0)), some (.inl x1), some (.inl x2), some (.inl 0), some (.inl 0)] h Q)) :
    gI wdM d mX8_leastFrom 0 [some (.inr (.inr 0)), some (.inl x1), some (.inl x2), none, none] h Q := by
  unfold gI
  refine x_iload_n (pc := 0) (show decode mX8_leastFrom.2.1 0 = .ok (.iload_n 2, 1) by decide +kernel) rfl rfl ?_
  refine x_iconst (pc := 1) (n := 1) (show decode mX8_leastFrom.2.1 1 = .ok (.iconst 1, 1) by decide +kernel) ?_
  refine x_aload_n (pc := 2) (show decode mX8_leastFrom.2.1 2 = .ok (.aload_n 0, 1) by decide +kernel) rfl rfl ?_
  refine x_getI (pc := 3) (ki := 10) f8_164 rfl rfl (by decide) rfl (show decode mX8_leastFrom.2.1 3 = .ok (.getfield 164, 3) by decide +kernel) ?_
  obtain ⟨hg, hR⟩ := hR
  refine x_ishl (pc := 6) (show decode mX8_leastFrom.2.1 6 = .ok (.ishl, 1) by decide +kernel) hg ?_
  refine x_iconst (pc := 7) (n := 1) (show decode mX8_leastFrom.2.1 7 = .ok (.iconst 1, 1) by decide +kernel) ?_
  refine x_isub (pc := 8) (show decode mX8_leastFrom.2.1 8 = .ok (.isub, 1) by decide +kernel) ?_
  obtain ⟨hg, hR⟩ := hR
  refine x_icmp_ne (pc := 9) (tgt := 16) (show decode mX8_leastFrom.2.1 9 = .ok (.if_icmp .ne 7, 3) by decide +kernel) (by decide) ⟨hg.1, hg.2⟩ (fun hc => ?_) (fun hc => ?_)
  · replace hR := hR.1 hc
    refine x_ldc (pc := 16) (n := 1000000) (tblG_m6 35 rfl rfl) rfl (show decode mX8_leastFrom.2.1 16 = .ok (.ldc 172, 2) by decide +kernel) ?_
    refine x_istore_n (pc := 18) (ls' := [some (.inr (.inr 0)), some (.inl x1), some (.inl x2), some (.inl 1000000), none]) (show decode mX8_leastFrom.2.1 18 = .ok (.istore_n 3, 1) by decide +kernel) rfl (by decide) rfl ?_
    refine x_iconst (pc := 19) (n := 0) (show decode mX8_leastFrom.2.1 19 = .ok (.iconst 0, 1) by decide +kernel) ?_
    refine x_istore (pc := 20) (ls' := [some (.inr (.inr 0)), some (.inl x1), some (.inl x2), some (.inl 1000000), some (.inl 0)]) (show decode mX8_leastFrom.2.1 20 = .ok (.istore 4, 2) by decide +kernel) (by decide) rfl ?_
    exact hR
  · replace hR := hR.2 hc
    refine x_iconst (pc := 12) (n := 0) (show decode mX8_leastFrom.2.1 12 = .ok (.iconst 0, 1) by decide +kernel) ?_
    refine x_goto (pc := 13) (tgt := 18) (show decode mX8_leastFrom.2.1 13 = .ok (.goto 5, 3) by decide +kernel) (by decide) ?_
    refine x_istore_n (pc := 18) (ls' := [some (.inr (.inr 0)), some (.inl x1), some (.inl x2), some (.inl 0), none]) (show decode mX8_leastFrom.2.1 18 = .ok (.istore_n 3, 1) by decide +kernel) rfl (by decide) rfl ?_
    refine x_iconst (pc := 19) (n := 0) (show decode mX8_leastFrom.2.1 19 = .ok (.iconst 0, 1) by decide +kernel) ?_
    refine x_istore (pc := 20) (ls' := [some (.inr (.inr 0)), some (.inl x1), some (.inl x2), some (.inl 0), some (.inl 0)]) (show decode mX8_leastFrom.2.1 20 = .ok (.istore 4, 2) by decide +kernel) (by decide) rfl ?_
    exact hR
set_option maxRecDepth 4000 in
theorem sg_X8_leastFrom_22 {d : Nat} {x1 x2 x3 x4 : Int} {h : xH} {Q : Int → xH → Prop} (hd : 1 ≤ d)
    (hR : (inI x4 ∧ inI (h 0 10)) ∧ ((h 0 10) ≤ x4 → Q x3 h) ∧ (x4 < (h 0 10) → cB wdM (d - 1) mX8_mayCome [.inr (.inr 0), .inl x4, .inl x2] h (fun h1 => cI wdM (d - 1) mX8_farFrom [.inr (.inr 0), .inl x1, .inl x2, .inl x4] h1 (fun r3 h2 => (inI x3 ∧ inI r3) ∧ gI wdM d mX8_leastFrom 22 [some (.inr (.inr 0)), some (.inl x1), some (.inl x2), some (.inl (min x3 r3)), some (.inl (x4 + 1))] h2 Q)) (fun h1 => gI wdM d mX8_leastFrom 22 [some (.inr (.inr 0)), some (.inl x1), some (.inl x2), some (.inl x3), some (.inl (x4 + 1))] h1 Q))) :
    gI wdM d mX8_leastFrom 22 [some (.inr (.inr 0)), some (.inl x1), some (.inl x2), some (.inl x3), some (.inl x4)] h Q := by
  unfold gI
  refine x_iload (pc := 22) (show decode mX8_leastFrom.2.1 22 = .ok (.iload 4, 2) by decide +kernel) rfl ?_
  refine x_aload_n (pc := 24) (show decode mX8_leastFrom.2.1 24 = .ok (.aload_n 0, 1) by decide +kernel) rfl rfl ?_
  refine x_getI (pc := 25) (ki := 10) f8_164 rfl rfl (by decide) rfl (show decode mX8_leastFrom.2.1 25 = .ok (.getfield 164, 3) by decide +kernel) ?_
  obtain ⟨hg, hR⟩ := hR
  refine x_icmp_ge (pc := 28) (tgt := 60) (show decode mX8_leastFrom.2.1 28 = .ok (.if_icmp .ge 32, 3) by decide +kernel) (by decide) ⟨hg.1, hg.2⟩ (fun hc => ?_) (fun hc => ?_)
  · replace hR := hR.1 hc
    refine x_iload_n (pc := 60) (show decode mX8_leastFrom.2.1 60 = .ok (.iload_n 3, 1) by decide +kernel) rfl rfl ?_
    exact x_iret (pc := 61) rfl (show decode mX8_leastFrom.2.1 61 = .ok (.ireturn, 1) by decide +kernel) ⟨_, rfl, hR⟩
  · replace hR := hR.2 hc
    refine x_aload_n (pc := 31) (show decode mX8_leastFrom.2.1 31 = .ok (.aload_n 0, 1) by decide +kernel) rfl rfl ?_
    refine x_iload (pc := 32) (show decode mX8_leastFrom.2.1 32 = .ok (.iload 4, 2) by decide +kernel) rfl ?_
    refine x_iload_n (pc := 34) (show decode mX8_leastFrom.2.1 34 = .ok (.iload_n 2, 1) by decide +kernel) rfl rfl ?_
    refine x_callV (pc := 35) (As := [.inl x4, .inl x2]) (rest := []) (lk8_173 rfl) im_X8_mayCome sl_X8_mayCome rfl rfl rfl (Nat.le_of_ble_eq_true rfl) (Nat.le_of_ble_eq_true rfl) (show decode mX8_leastFrom.2.1 35 = .ok (.invokevirtual 173, 3) by decide +kernel) hd hR (fun r9 h1 hq => ?_)
    obtain ⟨r8, rfl, hq⟩ := hq
    rcases hq with ⟨rfl, hR⟩ | ⟨rfl, hR⟩
    · show xG _ _ _ 38 _ [.inl 1] _ _
      refine x_if_eq (pc := 38) (tgt := 54) (show decode mX8_leastFrom.2.1 38 = .ok (.ifCond .eq 16, 3) by decide +kernel) (by decide) (by unfold inI; decide) (fun hc => absurd hc (by decide)) (fun _ => ?_)
      refine x_iload_n (pc := 41) (show decode mX8_leastFrom.2.1 41 = .ok (.iload_n 3, 1) by decide +kernel) rfl rfl ?_
      refine x_aload_n (pc := 42) (show decode mX8_leastFrom.2.1 42 = .ok (.aload_n 0, 1) by decide +kernel) rfl rfl ?_
      refine x_iload_n (pc := 43) (show decode mX8_leastFrom.2.1 43 = .ok (.iload_n 1, 1) by decide +kernel) rfl rfl ?_
      refine x_iload_n (pc := 44) (show decode mX8_leastFrom.2.1 44 = .ok (.iload_n 2, 1) by decide +kernel) rfl rfl ?_
      refine x_iload (pc := 45) (show decode mX8_leastFrom.2.1 45 = .ok (.iload 4, 2) by decide +kernel) rfl ?_
      refine x_callV (pc := 47) (As := [.inl x1, .inl x2, .inl x4]) (rest := [.inl x3]) (lk8_191 rfl) im_X8_farFrom sl_X8_farFrom rfl rfl rfl (Nat.le_of_ble_eq_true rfl) (Nat.le_of_ble_eq_true rfl) (show decode mX8_leastFrom.2.1 47 = .ok (.invokevirtual 191, 3) by decide +kernel) hd hR (fun r9 h2 hq => ?_)
      obtain ⟨r3, rfl, hR⟩ := hq
      show xG _ _ _ 50 _ [.inl r3, .inl x3] _ _
      obtain ⟨hg, hR⟩ := hR
      refine x_mmin (pc := 50) (tblG_m6 41 rfl rfl) MN_st M_in MN_cd ⟨hg.1, hg.2⟩ (Nat.le_of_ble_eq_true rfl) hd (show decode mX8_leastFrom.2.1 50 = .ok (.invokestatic 180, 3) by decide +kernel) ?_
      refine x_istore_n (pc := 53) (ls' := [some (.inr (.inr 0)), some (.inl x1), some (.inl x2), some (.inl (min x3 r3)), some (.inl x4)]) (show decode mX8_leastFrom.2.1 53 = .ok (.istore_n 3, 1) by decide +kernel) rfl (by decide) rfl ?_
      refine x_iinc (pc := 54) (ls' := [some (.inr (.inr 0)), some (.inl x1), some (.inl x2), some (.inl (min x3 r3)), some (.inl (x4 + 1))]) (show decode mX8_leastFrom.2.1 54 = .ok (.iinc 4 1, 3) by decide +kernel) (by decide) rfl rfl ?_
      refine x_goto (pc := 57) (tgt := 22) (show decode mX8_leastFrom.2.1 57 = .ok (.goto (-35), 3) by decide +kernel) (by decide) ?_
      exact hR
    · show xG _ _ _ 38 _ [.inl 0] _ _
      refine x_if_eq (pc := 38) (tgt := 54) (show decode mX8_leastFrom.2.1 38 = .ok (.ifCond .eq 16, 3) by decide +kernel) (by decide) (by unfold inI; decide) (fun _ => ?_) (fun hc => absurd hc (by decide))
      refine x_iinc (pc := 54) (ls' := [some (.inr (.inr 0)), some (.inl x1), some (.inl x2), some (.inl x3), some (.inl (x4 + 1))]) (show decode mX8_leastFrom.2.1 54 = .ok (.iinc 4 1, 3) by decide +kernel) (by decide) rfl rfl ?_
      refine x_goto (pc := 57) (tgt := 22) (show decode mX8_leastFrom.2.1 57 = .ok (.goto (-35), 3) by decide +kernel) (by decide) ?_
      exact hR
set_option maxRecDepth 4000 in
theorem sg_X8_travel_0 {d : Nat} {h : xH} {Q : Int → xH → Prop} (hd : 1 ≤ d)
    (hR : cB wdM (d - 1) mX8_areFew [.inr (.inr 0)] h (fun h1 => cV wdM (d - 1) mX8_goesBack [.inr (.inr 0)] h1 (fun h2 => (inL (h2 6 0)) ∧ (¬ (h2 6 0) = 0 → cI wdM (d - 1) mX8_leastFrom [.inr (.inr 0), .inl (h2 1 3), .inl 0] h2 (fun r4 h3 => Q r4 h3)) ∧ ((h2 6 0) = 0 → Q (-5) h2))) (fun h1 => Q (-3) h1)) :
    gI wdM d mX8_travel 0 [some (.inr (.inr 0))] h Q := by
  unfold gI
  refine x_aload_n (pc := 0) (show decode mX8_travel.2.1 0 = .ok (.aload_n 0, 1) by decide +kernel) rfl rfl ?_
  refine x_callV (pc := 1) (As := []) (rest := []) (lk8_183 rfl) im_X8_areFew sl_X8_areFew rfl rfl rfl (Nat.le_of_ble_eq_true rfl) (Nat.le_of_ble_eq_true rfl) (show decode mX8_travel.2.1 1 = .ok (.invokevirtual 183, 3) by decide +kernel) hd hR (fun r9 h1 hq => ?_)
  obtain ⟨r8, rfl, hq⟩ := hq
  rcases hq with ⟨rfl, hR⟩ | ⟨rfl, hR⟩
  · show xG _ _ _ 4 _ [.inl 1] _ _
    refine x_if_ne (pc := 4) (tgt := 10) (show decode mX8_travel.2.1 4 = .ok (.ifCond .ne 6, 3) by decide +kernel) (by decide) (by unfold inI; decide) (fun _ => ?_) (fun hc => absurd hc (by decide))
    refine x_aload_n (pc := 10) (show decode mX8_travel.2.1 10 = .ok (.aload_n 0, 1) by decide +kernel) rfl rfl ?_
    refine x_callV (pc := 11) (As := []) (rest := []) (lk8_188 rfl) im_X8_goesBack sl_X8_goesBack rfl rfl rfl (Nat.le_of_ble_eq_true rfl) (Nat.le_of_ble_eq_true rfl) (show decode mX8_travel.2.1 11 = .ok (.invokevirtual 188, 3) by decide +kernel) hd hR (fun r9 h2 hq => ?_)
    obtain ⟨rfl, hR⟩ := hq
    show xG _ _ _ 14 _ [] _ _
    refine x_aload_n (pc := 14) (show decode mX8_travel.2.1 14 = .ok (.aload_n 0, 1) by decide +kernel) rfl rfl ?_
    refine x_getR (pc := 15) f8_28 rfl rfl (show decode mX8_travel.2.1 15 = .ok (.getfield 28, 3) by decide +kernel) ?_
    refine x_iconst (pc := 18) (n := 0) (show decode mX8_travel.2.1 18 = .ok (.iconst 0, 1) by decide +kernel) ?_
    refine x_lald (pc := 19) rfl (by decide) (by decide) (show decode mX8_travel.2.1 19 = .ok (.laload, 1) by decide +kernel) ?_
    refine x_lconst (pc := 20) (v := 0) (show decode mX8_travel.2.1 20 = .ok (.lconst 0, 1) by decide +kernel) rfl ?_
    obtain ⟨hg, hR⟩ := hR
    refine x_lcmp (pc := 21) (show decode mX8_travel.2.1 21 = .ok (.lcmp, 1) by decide +kernel) ⟨hg, (by unfold inL; decide)⟩ ?_
    refine x_if_ne (pc := 22) (tgt := 30) (show decode mX8_travel.2.1 22 = .ok (.ifCond .ne 8, 3) by decide +kernel) (by decide) (xcmp_in _ _) (fun hc => ?_) (fun hc => ?_)
    · replace hR := hR.1 (fun z => hc (xcmp_eq.mpr z))
      refine x_aload_n (pc := 30) (show decode mX8_travel.2.1 30 = .ok (.aload_n 0, 1) by decide +kernel) rfl rfl ?_
      refine x_aload_n (pc := 31) (show decode mX8_travel.2.1 31 = .ok (.aload_n 0, 1) by decide +kernel) rfl rfl ?_
      refine x_getR (pc := 32) f8_11 rfl rfl (show decode mX8_travel.2.1 32 = .ok (.getfield 11, 3) by decide +kernel) ?_
      refine x_iconst (pc := 35) (n := 3) (show decode mX8_travel.2.1 35 = .ok (.iconst 3, 1) by decide +kernel) ?_
      refine x_iald (pc := 36) rfl (by decide) (by decide) (show decode mX8_travel.2.1 36 = .ok (.iaload, 1) by decide +kernel) ?_
      refine x_iconst (pc := 37) (n := 0) (show decode mX8_travel.2.1 37 = .ok (.iconst 0, 1) by decide +kernel) ?_
      refine x_callV (pc := 38) (As := [.inl (h2 1 3), .inl 0]) (rest := []) (lk8_195 rfl) im_X8_leastFrom sl_X8_leastFrom rfl rfl rfl (Nat.le_of_ble_eq_true rfl) (Nat.le_of_ble_eq_true rfl) (show decode mX8_travel.2.1 38 = .ok (.invokevirtual 195, 3) by decide +kernel) hd hR (fun r9 h3 hq => ?_)
      obtain ⟨r4, rfl, hR⟩ := hq
      show xG _ _ _ 41 _ [.inl r4] _ _
      exact x_iret (pc := 41) rfl (show decode mX8_travel.2.1 41 = .ok (.ireturn, 1) by decide +kernel) ⟨_, rfl, hR⟩
    · replace hR := hR.2 (xcmp_eq.mp hc)
      refine x_bipush (pc := 25) (n := (-5)) (show decode mX8_travel.2.1 25 = .ok (.bipush (-5), 2) by decide +kernel) rfl ?_
      refine x_goto (pc := 27) (tgt := 41) (show decode mX8_travel.2.1 27 = .ok (.goto 14, 3) by decide +kernel) (by decide) ?_
      exact x_iret (pc := 41) rfl (show decode mX8_travel.2.1 41 = .ok (.ireturn, 1) by decide +kernel) ⟨_, rfl, hR⟩
  · show xG _ _ _ 4 _ [.inl 0] _ _
    refine x_if_ne (pc := 4) (tgt := 10) (show decode mX8_travel.2.1 4 = .ok (.ifCond .ne 6, 3) by decide +kernel) (by decide) (by unfold inI; decide) (fun hc => absurd hc (by decide)) (fun _ => ?_)
    refine x_bipush (pc := 7) (n := (-3)) (show decode mX8_travel.2.1 7 = .ok (.bipush (-3), 2) by decide +kernel) rfl ?_
    exact x_iret (pc := 9) rfl (show decode mX8_travel.2.1 9 = .ok (.ireturn, 1) by decide +kernel) ⟨_, rfl, hR⟩
set_option maxRecDepth 4000 in
theorem sg_X8_along_0 {d : Nat} {x1 : Int} {h : xH} {Q : Int → xH → Prop} (hd : 1 ≤ d)
    (hR : cB wdM (d - 1) mX8_areFew [.inr (.inr 0)] h (fun h1 => cV wdM (d - 1) mX8_goesBack [.inr (.inr 0)] h1 (fun h2 => (inL (h2 6 0)) ∧ (¬ (h2 6 0) = 0 → inI x1 ∧ inI ((h2 0 10) - 1) ∧ cB wdM (d - 1) mX8_isIn [.inr (.inl x1), .inr (.inl 0), .inr (.inl ((h2 0 10) - 1))] h2 (fun h3 => gI wdM d mX8_along 61 [some (.inr (.inr 0)), some (.inl x1), some (.inl (h3 1 3)), some (.inl 0), some (.inl (-1)), some (.inl 0), none, none] h3 Q) (fun h3 => Q (-1) h3)) ∧ ((h2 6 0) = 0 → Q (-3) h2))) (fun h1 => Q (-3) h1)) :
    gI wdM d mX8_along 0 [some (.inr (.inr 0)), some (.inl x1), none, none, none, none, none, none] h Q := by
  unfold gI
  refine x_aload_n (pc := 0) (show decode mX8_along.2.1 0 = .ok (.aload_n 0, 1) by decide +kernel) rfl rfl ?_
  refine x_callV (pc := 1) (As := []) (rest := []) (lk8_183 rfl) im_X8_areFew sl_X8_areFew rfl rfl rfl (Nat.le_of_ble_eq_true rfl) (Nat.le_of_ble_eq_true rfl) (show decode mX8_along.2.1 1 = .ok (.invokevirtual 183, 3) by decide +kernel) hd hR (fun r9 h1 hq => ?_)
  obtain ⟨r8, rfl, hq⟩ := hq
  rcases hq with ⟨rfl, hR⟩ | ⟨rfl, hR⟩
  · show xG _ _ _ 4 _ [.inl 1] _ _
    refine x_if_ne (pc := 4) (tgt := 10) (show decode mX8_along.2.1 4 = .ok (.ifCond .ne 6, 3) by decide +kernel) (by decide) (by unfold inI; decide) (fun _ => ?_) (fun hc => absurd hc (by decide))
    refine x_aload_n (pc := 10) (show decode mX8_along.2.1 10 = .ok (.aload_n 0, 1) by decide +kernel) rfl rfl ?_
    refine x_callV (pc := 11) (As := []) (rest := []) (lk8_188 rfl) im_X8_goesBack sl_X8_goesBack rfl rfl rfl (Nat.le_of_ble_eq_true rfl) (Nat.le_of_ble_eq_true rfl) (show decode mX8_along.2.1 11 = .ok (.invokevirtual 188, 3) by decide +kernel) hd hR (fun r9 h2 hq => ?_)
    obtain ⟨rfl, hR⟩ := hq
    show xG _ _ _ 14 _ [] _ _
    refine x_aload_n (pc := 14) (show decode mX8_along.2.1 14 = .ok (.aload_n 0, 1) by decide +kernel) rfl rfl ?_
    refine x_getR (pc := 15) f8_28 rfl rfl (show decode mX8_along.2.1 15 = .ok (.getfield 28, 3) by decide +kernel) ?_
    refine x_iconst (pc := 18) (n := 0) (show decode mX8_along.2.1 18 = .ok (.iconst 0, 1) by decide +kernel) ?_
    refine x_lald (pc := 19) rfl (by decide) (by decide) (show decode mX8_along.2.1 19 = .ok (.laload, 1) by decide +kernel) ?_
    refine x_lconst (pc := 20) (v := 0) (show decode mX8_along.2.1 20 = .ok (.lconst 0, 1) by decide +kernel) rfl ?_
    obtain ⟨hg, hR⟩ := hR
    refine x_lcmp (pc := 21) (show decode mX8_along.2.1 21 = .ok (.lcmp, 1) by decide +kernel) ⟨hg, (by unfold inL; decide)⟩ ?_
    refine x_if_ne (pc := 22) (tgt := 28) (show decode mX8_along.2.1 22 = .ok (.ifCond .ne 6, 3) by decide +kernel) (by decide) (xcmp_in _ _) (fun hc => ?_) (fun hc => ?_)
    · replace hR := hR.1 (fun z => hc (xcmp_eq.mpr z))
      refine x_iload_n (pc := 28) (show decode mX8_along.2.1 28 = .ok (.iload_n 1, 1) by decide +kernel) rfl rfl ?_
      obtain ⟨hg, hR⟩ := hR
      refine x_i2l (pc := 29) (show decode mX8_along.2.1 29 = .ok (.i2l, 1) by decide +kernel) hg ?_
      refine x_lconst (pc := 30) (v := 0) (show decode mX8_along.2.1 30 = .ok (.lconst 0, 1) by decide +kernel) rfl ?_
      refine x_aload_n (pc := 31) (show decode mX8_along.2.1 31 = .ok (.aload_n 0, 1) by decide +kernel) rfl rfl ?_
      refine x_getI (pc := 32) (ki := 10) f8_164 rfl rfl (by decide) rfl (show decode mX8_along.2.1 32 = .ok (.getfield 164, 3) by decide +kernel) ?_
      refine x_iconst (pc := 35) (n := 1) (show decode mX8_along.2.1 35 = .ok (.iconst 1, 1) by decide +kernel) ?_
      refine x_isub (pc := 36) (show decode mX8_along.2.1 36 = .ok (.isub, 1) by decide +kernel) ?_
      obtain ⟨hg, hR⟩ := hR
      refine x_i2l (pc := 37) (show decode mX8_along.2.1 37 = .ok (.i2l, 1) by decide +kernel) hg ?_
      refine x_callS (pc := 38) (As := [.inr (.inl x1), .inr (.inl 0), .inr (.inl ((h2 0 10) - 1))]) (rest := []) (lk8_79 rfl) sm_X8_isIn (Nat.le_of_ble_eq_true rfl) (Nat.le_of_ble_eq_true rfl) (show decode mX8_along.2.1 38 = .ok (.invokestatic 79, 3) by decide +kernel) hd hR (fun r9 h3 hq => ?_)
      obtain ⟨r8, rfl, hq⟩ := hq
      rcases hq with ⟨rfl, hR⟩ | ⟨rfl, hR⟩
      · show xG _ _ _ 41 _ [.inl 1] _ _
        refine x_if_ne (pc := 41) (tgt := 46) (show decode mX8_along.2.1 41 = .ok (.ifCond .ne 5, 3) by decide +kernel) (by decide) (by unfold inI; decide) (fun _ => ?_) (fun hc => absurd hc (by decide))
        refine x_aload_n (pc := 46) (show decode mX8_along.2.1 46 = .ok (.aload_n 0, 1) by decide +kernel) rfl rfl ?_
        refine x_getR (pc := 47) f8_11 rfl rfl (show decode mX8_along.2.1 47 = .ok (.getfield 11, 3) by decide +kernel) ?_
        refine x_iconst (pc := 50) (n := 3) (show decode mX8_along.2.1 50 = .ok (.iconst 3, 1) by decide +kernel) ?_
        refine x_iald (pc := 51) rfl (by decide) (by decide) (show decode mX8_along.2.1 51 = .ok (.iaload, 1) by decide +kernel) ?_
        refine x_istore_n (pc := 52) (ls' := [some (.inr (.inr 0)), some (.inl x1), some (.inl (h3 1 3)), none, none, none, none, none]) (show decode mX8_along.2.1 52 = .ok (.istore_n 2, 1) by decide +kernel) rfl (by decide) rfl ?_
        refine x_iconst (pc := 53) (n := 0) (show decode mX8_along.2.1 53 = .ok (.iconst 0, 1) by decide +kernel) ?_
        refine x_istore_n (pc := 54) (ls' := [some (.inr (.inr 0)), some (.inl x1), some (.inl (h3 1 3)), some (.inl 0), none, none, none, none]) (show decode mX8_along.2.1 54 = .ok (.istore_n 3, 1) by decide +kernel) rfl (by decide) rfl ?_
        refine x_iconst (pc := 55) (n := (-1)) (show decode mX8_along.2.1 55 = .ok (.iconst (-1), 1) by decide +kernel) ?_
        refine x_istore (pc := 56) (ls' := [some (.inr (.inr 0)), some (.inl x1), some (.inl (h3 1 3)), some (.inl 0), some (.inl (-1)), none, none, none]) (show decode mX8_along.2.1 56 = .ok (.istore 4, 2) by decide +kernel) (by decide) rfl ?_
        refine x_iconst (pc := 58) (n := 0) (show decode mX8_along.2.1 58 = .ok (.iconst 0, 1) by decide +kernel) ?_
        refine x_istore (pc := 59) (ls' := [some (.inr (.inr 0)), some (.inl x1), some (.inl (h3 1 3)), some (.inl 0), some (.inl (-1)), some (.inl 0), none, none]) (show decode mX8_along.2.1 59 = .ok (.istore 5, 2) by decide +kernel) (by decide) rfl ?_
        exact hR
      · show xG _ _ _ 41 _ [.inl 0] _ _
        refine x_if_ne (pc := 41) (tgt := 46) (show decode mX8_along.2.1 41 = .ok (.ifCond .ne 5, 3) by decide +kernel) (by decide) (by unfold inI; decide) (fun hc => absurd hc (by decide)) (fun _ => ?_)
        refine x_iconst (pc := 44) (n := (-1)) (show decode mX8_along.2.1 44 = .ok (.iconst (-1), 1) by decide +kernel) ?_
        exact x_iret (pc := 45) rfl (show decode mX8_along.2.1 45 = .ok (.ireturn, 1) by decide +kernel) ⟨_, rfl, hR⟩
    · replace hR := hR.2 (xcmp_eq.mp hc)
      refine x_bipush (pc := 25) (n := (-3)) (show decode mX8_along.2.1 25 = .ok (.bipush (-3), 2) by decide +kernel) rfl ?_
      exact x_iret (pc := 27) rfl (show decode mX8_along.2.1 27 = .ok (.ireturn, 1) by decide +kernel) ⟨_, rfl, hR⟩
  · show xG _ _ _ 4 _ [.inl 0] _ _
    refine x_if_ne (pc := 4) (tgt := 10) (show decode mX8_along.2.1 4 = .ok (.ifCond .ne 6, 3) by decide +kernel) (by decide) (by unfold inI; decide) (fun hc => absurd hc (by decide)) (fun _ => ?_)
    refine x_bipush (pc := 7) (n := (-3)) (show decode mX8_along.2.1 7 = .ok (.bipush (-3), 2) by decide +kernel) rfl ?_
    exact x_iret (pc := 9) rfl (show decode mX8_along.2.1 9 = .ok (.ireturn, 1) by decide +kernel) ⟨_, rfl, hR⟩
set_option maxRecDepth 4000 in
theorem sg_X8_along_61 {d : Nat} {x1 x2 x3 x4 x5 : Int} {h : xH} {Q : Int → xH → Prop} (hd : 1 ≤ d)
    (hR : (inI x5 ∧ inI x1) ∧ (x1 < x5 → Q x4 h) ∧ (x5 ≤ x1 → cI wdM (d - 1) mX8_leastFrom [.inr (.inr 0), .inl x2, .inl x3] h (fun r2 h1 => gI wdM d mX8_along 78 [some (.inr (.inr 0)), some (.inl x1), some (.inl x2), some (.inl x3), none, some (.inl x5), some (.inl r2), some (.inl 0)] h1 Q))) :
    gI wdM d mX8_along 61 [some (.inr (.inr 0)), some (.inl x1), some (.inl x2), some (.inl x3), some (.inl x4), some (.inl x5), none, none] h Q := by
  unfold gI
  refine x_iload (pc := 61) (show decode mX8_along.2.1 61 = .ok (.iload 5, 2) by decide +kernel) rfl ?_
  refine x_iload_n (pc := 63) (show decode mX8_along.2.1 63 = .ok (.iload_n 1, 1) by decide +kernel) rfl rfl ?_
  obtain ⟨hg, hR⟩ := hR
  refine x_icmp_gt (pc := 64) (tgt := 140) (show decode mX8_along.2.1 64 = .ok (.if_icmp .gt 76, 3) by decide +kernel) (by decide) ⟨hg.1, hg.2⟩ (fun hc => ?_) (fun hc => ?_)
  · replace hR := hR.1 hc
    refine x_iload (pc := 140) (show decode mX8_along.2.1 140 = .ok (.iload 4, 2) by decide +kernel) rfl ?_
    exact x_iret (pc := 142) rfl (show decode mX8_along.2.1 142 = .ok (.ireturn, 1) by decide +kernel) ⟨_, rfl, hR⟩
  · replace hR := hR.2 hc
    refine x_aload_n (pc := 67) (show decode mX8_along.2.1 67 = .ok (.aload_n 0, 1) by decide +kernel) rfl rfl ?_
    refine x_iload_n (pc := 68) (show decode mX8_along.2.1 68 = .ok (.iload_n 2, 1) by decide +kernel) rfl rfl ?_
    refine x_iload_n (pc := 69) (show decode mX8_along.2.1 69 = .ok (.iload_n 3, 1) by decide +kernel) rfl rfl ?_
    refine x_callV (pc := 70) (As := [.inl x2, .inl x3]) (rest := []) (lk8_195 rfl) im_X8_leastFrom sl_X8_leastFrom rfl rfl rfl (Nat.le_of_ble_eq_true rfl) (Nat.le_of_ble_eq_true rfl) (show decode mX8_along.2.1 70 = .ok (.invokevirtual 195, 3) by decide +kernel) hd hR (fun r9 h1 hq => ?_)
    obtain ⟨r2, rfl, hR⟩ := hq
    show xG _ _ _ 73 _ [.inl r2] _ _
    refine x_istore (pc := 73) (ls' := [some (.inr (.inr 0)), some (.inl x1), some (.inl x2), some (.inl x3), some (.inl x4), some (.inl x5), some (.inl r2), none]) (show decode mX8_along.2.1 73 = .ok (.istore 6, 2) by decide +kernel) (by decide) rfl ?_
    refine x_iconst (pc := 75) (n := 0) (show decode mX8_along.2.1 75 = .ok (.iconst 0, 1) by decide +kernel) ?_
    refine x_istore (pc := 76) (ls' := [some (.inr (.inr 0)), some (.inl x1), some (.inl x2), some (.inl x3), some (.inl x4), some (.inl x5), some (.inl r2), some (.inl 0)]) (show decode mX8_along.2.1 76 = .ok (.istore 7, 2) by decide +kernel) (by decide) rfl ?_
    exact x_weak (xle_get (by repeat' constructor)) hR
set_option maxRecDepth 4000 in
theorem sg_X8_along_78 {d : Nat} {x1 x2 x3 x5 x6 x7 : Int} {h : xH} {Q : Int → xH → Prop} (hd : 1 ≤ d)
    (hR : cB wdM (d - 1) mX8_mayCome [.inr (.inr 0), .inl x7, .inl x3] h (fun h1 => cI wdM (d - 1) mX8_farFrom [.inr (.inr 0), .inl x2, .inl x3, .inl x7] h1 (fun r3 h2 => (inI r3 ∧ inI x6) ∧ (r3 = x6 → (0 ≤ x7 ∧ x7 ≤ 31) ∧ (0 ≤ x7 ∧ x7 < 12) ∧ (0 ≤ (35 + (h2 8 x7)) ∧ (35 + (h2 8 x7)) < 1705) ∧ gI wdM d mX8_along 61 [some (.inr (.inr 0)), some (.inl x1), some (.inl (h2 1 (35 + (h2 8 x7)))), some (.inl (xorI x3 (1 * 2 ^ (Int.toNat x7)))), some (.inl (h2 8 x7)), some (.inl (x5 + 1)), none, none] h2 Q) ∧ (¬ r3 = x6 → gI wdM d mX8_along 78 [some (.inr (.inr 0)), some (.inl x1), some (.inl x2), some (.inl x3), none, some (.inl x5), some (.inl x6), some (.inl (x7 + 1))] h2 Q))) (fun h1 => gI wdM d mX8_along 78 [some (.inr (.inr 0)), some (.inl x1), some (.inl x2), some (.inl x3), none, some (.inl x5), some (.inl x6), some (.inl (x7 + 1))] h1 Q)) :
    gI wdM d mX8_along 78 [some (.inr (.inr 0)), some (.inl x1), some (.inl x2), some (.inl x3), none, some (.inl x5), some (.inl x6), some (.inl x7)] h Q := by
  unfold gI
  refine x_aload_n (pc := 78) (show decode mX8_along.2.1 78 = .ok (.aload_n 0, 1) by decide +kernel) rfl rfl ?_
  refine x_iload (pc := 79) (show decode mX8_along.2.1 79 = .ok (.iload 7, 2) by decide +kernel) rfl ?_
  refine x_iload_n (pc := 81) (show decode mX8_along.2.1 81 = .ok (.iload_n 3, 1) by decide +kernel) rfl rfl ?_
  refine x_callV (pc := 82) (As := [.inl x7, .inl x3]) (rest := []) (lk8_173 rfl) im_X8_mayCome sl_X8_mayCome rfl rfl rfl (Nat.le_of_ble_eq_true rfl) (Nat.le_of_ble_eq_true rfl) (show decode mX8_along.2.1 82 = .ok (.invokevirtual 173, 3) by decide +kernel) hd hR (fun r9 h1 hq => ?_)
  obtain ⟨r8, rfl, hq⟩ := hq
  rcases hq with ⟨rfl, hR⟩ | ⟨rfl, hR⟩
  · show xG _ _ _ 85 _ [.inl 1] _ _
    refine x_if_eq (pc := 85) (tgt := 101) (show decode mX8_along.2.1 85 = .ok (.ifCond .eq 16, 3) by decide +kernel) (by decide) (by unfold inI; decide) (fun hc => absurd hc (by decide)) (fun _ => ?_)
    refine x_aload_n (pc := 88) (show decode mX8_along.2.1 88 = .ok (.aload_n 0, 1) by decide +kernel) rfl rfl ?_
    refine x_iload_n (pc := 89) (show decode mX8_along.2.1 89 = .ok (.iload_n 2, 1) by decide +kernel) rfl rfl ?_
    refine x_iload_n (pc := 90) (show decode mX8_along.2.1 90 = .ok (.iload_n 3, 1) by decide +kernel) rfl rfl ?_
    refine x_iload (pc := 91) (show decode mX8_along.2.1 91 = .ok (.iload 7, 2) by decide +kernel) rfl ?_
    refine x_callV (pc := 93) (As := [.inl x2, .inl x3, .inl x7]) (rest := []) (lk8_191 rfl) im_X8_farFrom sl_X8_farFrom rfl rfl rfl (Nat.le_of_ble_eq_true rfl) (Nat.le_of_ble_eq_true rfl) (show decode mX8_along.2.1 93 = .ok (.invokevirtual 191, 3) by decide +kernel) hd hR (fun r9 h2 hq => ?_)
    obtain ⟨r3, rfl, hR⟩ := hq
    show xG _ _ _ 96 _ [.inl r3] _ _
    refine x_iload (pc := 96) (show decode mX8_along.2.1 96 = .ok (.iload 6, 2) by decide +kernel) rfl ?_
    obtain ⟨hg, hR⟩ := hR
    refine x_icmp_eq (pc := 98) (tgt := 107) (show decode mX8_along.2.1 98 = .ok (.if_icmp .eq 9, 3) by decide +kernel) (by decide) ⟨hg.1, hg.2⟩ (fun hc => ?_) (fun hc => ?_)
    · replace hR := hR.1 hc
      refine x_iload_n (pc := 107) (show decode mX8_along.2.1 107 = .ok (.iload_n 3, 1) by decide +kernel) rfl rfl ?_
      refine x_iconst (pc := 108) (n := 1) (show decode mX8_along.2.1 108 = .ok (.iconst 1, 1) by decide +kernel) ?_
      refine x_iload (pc := 109) (show decode mX8_along.2.1 109 = .ok (.iload 7, 2) by decide +kernel) rfl ?_
      obtain ⟨hg, hR⟩ := hR
      refine x_ishl (pc := 111) (show decode mX8_along.2.1 111 = .ok (.ishl, 1) by decide +kernel) hg ?_
      refine x_ior (pc := 112) (show decode mX8_along.2.1 112 = .ok (.ior, 1) by decide +kernel) ?_
      refine x_istore_n (pc := 113) (ls' := [some (.inr (.inr 0)), some (.inl x1), some (.inl x2), some (.inl (xorI x3 (1 * 2 ^ (Int.toNat x7)))), none, some (.inl x5), some (.inl x6), some (.inl x7)]) (show decode mX8_along.2.1 113 = .ok (.istore_n 3, 1) by decide +kernel) rfl (by decide) rfl ?_
      refine x_aload_n (pc := 114) (show decode mX8_along.2.1 114 = .ok (.aload_n 0, 1) by decide +kernel) rfl rfl ?_
      refine x_getR (pc := 115) f8_34 rfl rfl (show decode mX8_along.2.1 115 = .ok (.getfield 34, 3) by decide +kernel) ?_
      refine x_iload (pc := 118) (show decode mX8_along.2.1 118 = .ok (.iload 7, 2) by decide +kernel) rfl ?_
      obtain ⟨hg, hR⟩ := hR
      refine x_iald (pc := 120) rfl (by decide) hg (show decode mX8_along.2.1 120 = .ok (.iaload, 1) by decide +kernel) ?_
      refine x_istore (pc := 121) (ls' := [some (.inr (.inr 0)), some (.inl x1), some (.inl x2), some (.inl (xorI x3 (1 * 2 ^ (Int.toNat x7)))), some (.inl (h2 8 x7)), some (.inl x5), some (.inl x6), some (.inl x7)]) (show decode mX8_along.2.1 121 = .ok (.istore 4, 2) by decide +kernel) (by decide) rfl ?_
      refine x_aload_n (pc := 123) (show decode mX8_along.2.1 123 = .ok (.aload_n 0, 1) by decide +kernel) rfl rfl ?_
      refine x_getR (pc := 124) f8_11 rfl rfl (show decode mX8_along.2.1 124 = .ok (.getfield 11, 3) by decide +kernel) ?_
      refine x_bipush (pc := 127) (n := 35) (show decode mX8_along.2.1 127 = .ok (.bipush 35, 2) by decide +kernel) rfl ?_
      refine x_iload (pc := 129) (show decode mX8_along.2.1 129 = .ok (.iload 4, 2) by decide +kernel) rfl ?_
      refine x_iadd (pc := 131) (show decode mX8_along.2.1 131 = .ok (.iadd, 1) by decide +kernel) ?_
      obtain ⟨hg, hR⟩ := hR
      refine x_iald (pc := 132) rfl (by decide) hg (show decode mX8_along.2.1 132 = .ok (.iaload, 1) by decide +kernel) ?_
      refine x_istore_n (pc := 133) (ls' := [some (.inr (.inr 0)), some (.inl x1), some (.inl (h2 1 (35 + (h2 8 x7)))), some (.inl (xorI x3 (1 * 2 ^ (Int.toNat x7)))), some (.inl (h2 8 x7)), some (.inl x5), some (.inl x6), some (.inl x7)]) (show decode mX8_along.2.1 133 = .ok (.istore_n 2, 1) by decide +kernel) rfl (by decide) rfl ?_
      refine x_iinc (pc := 134) (ls' := [some (.inr (.inr 0)), some (.inl x1), some (.inl (h2 1 (35 + (h2 8 x7)))), some (.inl (xorI x3 (1 * 2 ^ (Int.toNat x7)))), some (.inl (h2 8 x7)), some (.inl (x5 + 1)), some (.inl x6), some (.inl x7)]) (show decode mX8_along.2.1 134 = .ok (.iinc 5 1, 3) by decide +kernel) (by decide) rfl rfl ?_
      refine x_goto (pc := 137) (tgt := 61) (show decode mX8_along.2.1 137 = .ok (.goto (-76), 3) by decide +kernel) (by decide) ?_
      exact x_weak (xle_get (by repeat' constructor)) hR
    · replace hR := hR.2 hc
      refine x_iinc (pc := 101) (ls' := [some (.inr (.inr 0)), some (.inl x1), some (.inl x2), some (.inl x3), none, some (.inl x5), some (.inl x6), some (.inl (x7 + 1))]) (show decode mX8_along.2.1 101 = .ok (.iinc 7 1, 3) by decide +kernel) (by decide) rfl rfl ?_
      refine x_goto (pc := 104) (tgt := 78) (show decode mX8_along.2.1 104 = .ok (.goto (-26), 3) by decide +kernel) (by decide) ?_
      exact hR
  · show xG _ _ _ 85 _ [.inl 0] _ _
    refine x_if_eq (pc := 85) (tgt := 101) (show decode mX8_along.2.1 85 = .ok (.ifCond .eq 16, 3) by decide +kernel) (by decide) (by unfold inI; decide) (fun _ => ?_) (fun hc => absurd hc (by decide))
    refine x_iinc (pc := 101) (ls' := [some (.inr (.inr 0)), some (.inl x1), some (.inl x2), some (.inl x3), none, some (.inl x5), some (.inl x6), some (.inl (x7 + 1))]) (show decode mX8_along.2.1 101 = .ok (.iinc 7 1, 3) by decide +kernel) (by decide) rfl rfl ?_
    refine x_goto (pc := 104) (tgt := 78) (show decode mX8_along.2.1 104 = .ok (.goto (-26), 3) by decide +kernel) (by decide) ?_
    exact hR
set_option maxRecDepth 4000 in
theorem sg_X8_findsTurns_0 {d : Nat} {h : xH} {Q : xH → Prop}
    (hR : gV wdM d mX8_findsTurns 12 [some (.inr (.inr 0)), some (.inl 0), none] (xu (xu h 0 15 0) 0 16 0) Q) :
    gV wdM d mX8_findsTurns 0 [some (.inr (.inr 0)), none, none] h Q := by
  unfold gV
  refine x_aload_n (pc := 0) (show decode mX8_findsTurns.2.1 0 = .ok (.aload_n 0, 1) by decide +kernel) rfl rfl ?_
  refine x_iconst (pc := 1) (n := 0) (show decode mX8_findsTurns.2.1 1 = .ok (.iconst 0, 1) by decide +kernel) ?_
  refine x_putI (pc := 2) (ki := 15) f8_198 fp8_15 rfl rfl rfl (show decode mX8_findsTurns.2.1 2 = .ok (.putfield 198, 3) by decide +kernel) ?_
  refine x_aload_n (pc := 5) (show decode mX8_findsTurns.2.1 5 = .ok (.aload_n 0, 1) by decide +kernel) rfl rfl ?_
  refine x_iconst (pc := 6) (n := 0) (show decode mX8_findsTurns.2.1 6 = .ok (.iconst 0, 1) by decide +kernel) ?_
  refine x_putI (pc := 7) (ki := 16) f8_201 fp8_16 rfl rfl rfl (show decode mX8_findsTurns.2.1 7 = .ok (.putfield 201, 3) by decide +kernel) ?_
  refine x_iconst (pc := 10) (n := 0) (show decode mX8_findsTurns.2.1 10 = .ok (.iconst 0, 1) by decide +kernel) ?_
  refine x_istore_n (pc := 11) (ls' := [some (.inr (.inr 0)), some (.inl 0), none]) (show decode mX8_findsTurns.2.1 11 = .ok (.istore_n 1, 1) by decide +kernel) rfl (by decide) rfl ?_
  exact hR
set_option maxRecDepth 4000 in
theorem sg_X8_findsTurns_12 {d : Nat} {x1 : Int} {h : xH} {Q : xH → Prop}
    (hR : (inI x1) ∧ (100 ≤ x1 → Q h) ∧ (x1 < 100 → gV wdM d mX8_findsTurns 20 [some (.inr (.inr 0)), some (.inl x1), some (.inl 0)] h Q)) :
    gV wdM d mX8_findsTurns 12 [some (.inr (.inr 0)), some (.inl x1), none] h Q := by
  unfold gV
  refine x_iload_n (pc := 12) (show decode mX8_findsTurns.2.1 12 = .ok (.iload_n 1, 1) by decide +kernel) rfl rfl ?_
  refine x_bipush (pc := 13) (n := 100) (show decode mX8_findsTurns.2.1 13 = .ok (.bipush 100, 2) by decide +kernel) rfl ?_
  obtain ⟨hg, hR⟩ := hR
  refine x_icmp_ge (pc := 15) (tgt := 120) (show decode mX8_findsTurns.2.1 15 = .ok (.if_icmp .ge 105, 3) by decide +kernel) (by decide) ⟨hg, (by unfold inI; decide)⟩ (fun hc => ?_) (fun hc => ?_)
  · replace hR := hR.1 hc
    exact x_vret (pc := 120) rfl (show decode mX8_findsTurns.2.1 120 = .ok (.return_, 1) by decide +kernel) ⟨rfl, hR⟩
  · replace hR := hR.2 hc
    refine x_iconst (pc := 18) (n := 0) (show decode mX8_findsTurns.2.1 18 = .ok (.iconst 0, 1) by decide +kernel) ?_
    refine x_istore_n (pc := 19) (ls' := [some (.inr (.inr 0)), some (.inl x1), some (.inl 0)]) (show decode mX8_findsTurns.2.1 19 = .ok (.istore_n 2, 1) by decide +kernel) rfl (by decide) rfl ?_
    exact hR
set_option maxRecDepth 4000 in
theorem sg_X8_findsTurns_20 {d : Nat} {x1 x2 : Int} {h : xH} {Q : xH → Prop} (hd : 1 ≤ d)
    (hR : (inI x2 ∧ inI (h 1 0)) ∧ ((h 1 0) ≤ x2 → gV wdM d mX8_findsTurns 12 [some (.inr (.inr 0)), some (.inl (x1 + 1)), none] h Q) ∧ (x2 < (h 1 0) → cB wdM (d - 1) mX8_hasTurn [.inr (.inr 0), .inl ((100 * x2) + x1)] h (fun h1 => cB wdM (d - 1) mX8_isFilled [.inr (.inr 0), .inl x2, .inl x1] h1 (fun h2 => (0 ≤ (h2 0 15) ∧ (h2 0 15) < 10) ∧ gV wdM d mX8_findsTurns 20 [some (.inr (.inr 0)), some (.inl x1), some (.inl (x2 + 1))] (xu (xu h2 10 (h2 0 15) ((100 * x2) + x1)) 0 15 ((h2 0 15) + 1)) Q) (fun h2 => (0 ≤ (h2 0 16) ∧ (h2 0 16) < 10) ∧ gV wdM d mX8_findsTurns 20 [some (.inr (.inr 0)), some (.inl x1), some (.inl (x2 + 1))] (xu (xu h2 11 (h2 0 16) ((100 * x2) + x1)) 0 16 ((h2 0 16) + 1)) Q)) (fun h1 => gV wdM d mX8_findsTurns 20 [some (.inr (.inr 0)), some (.inl x1), some (.inl (x2 + 1))] h1 Q))) :
    gV wdM d mX8_findsTurns 20 [some (.inr (.inr 0)), some (.inl x1), some (.inl x2)] h Q := by
  unfold gV
  refine x_iload_n (pc := 20) (show decode mX8_findsTurns.2.1 20 = .ok (.iload_n 2, 1) by decide +kernel) rfl rfl ?_
  refine x_aload_n (pc := 21) (show decode mX8_findsTurns.2.1 21 = .ok (.aload_n 0, 1) by decide +kernel) rfl rfl ?_
  refine x_getR (pc := 22) f8_11 rfl rfl (show decode mX8_findsTurns.2.1 22 = .ok (.getfield 11, 3) by decide +kernel) ?_
  refine x_iconst (pc := 25) (n := 0) (show decode mX8_findsTurns.2.1 25 = .ok (.iconst 0, 1) by decide +kernel) ?_
  refine x_iald (pc := 26) rfl (by decide) (by decide) (show decode mX8_findsTurns.2.1 26 = .ok (.iaload, 1) by decide +kernel) ?_
  obtain ⟨hg, hR⟩ := hR
  refine x_icmp_ge (pc := 27) (tgt := 114) (show decode mX8_findsTurns.2.1 27 = .ok (.if_icmp .ge 87, 3) by decide +kernel) (by decide) ⟨hg.1, hg.2⟩ (fun hc => ?_) (fun hc => ?_)
  · replace hR := hR.1 hc
    refine x_iinc (pc := 114) (ls' := [some (.inr (.inr 0)), some (.inl (x1 + 1)), some (.inl x2)]) (show decode mX8_findsTurns.2.1 114 = .ok (.iinc 1 1, 3) by decide +kernel) (by decide) rfl rfl ?_
    refine x_goto (pc := 117) (tgt := 12) (show decode mX8_findsTurns.2.1 117 = .ok (.goto (-105), 3) by decide +kernel) (by decide) ?_
    exact x_weak (xle_get (by repeat' constructor)) hR
  · replace hR := hR.2 hc
    refine x_aload_n (pc := 30) (show decode mX8_findsTurns.2.1 30 = .ok (.aload_n 0, 1) by decide +kernel) rfl rfl ?_
    refine x_bipush (pc := 31) (n := 100) (show decode mX8_findsTurns.2.1 31 = .ok (.bipush 100, 2) by decide +kernel) rfl ?_
    refine x_iload_n (pc := 33) (show decode mX8_findsTurns.2.1 33 = .ok (.iload_n 2, 1) by decide +kernel) rfl rfl ?_
    refine x_imul (pc := 34) (show decode mX8_findsTurns.2.1 34 = .ok (.imul, 1) by decide +kernel) ?_
    refine x_iload_n (pc := 35) (show decode mX8_findsTurns.2.1 35 = .ok (.iload_n 1, 1) by decide +kernel) rfl rfl ?_
    refine x_iadd (pc := 36) (show decode mX8_findsTurns.2.1 36 = .ok (.iadd, 1) by decide +kernel) ?_
    refine x_callV (pc := 37) (As := [.inl ((100 * x2) + x1)]) (rest := []) (lk8_113 rfl) im_X8_hasTurn sl_X8_hasTurn rfl rfl rfl (Nat.le_of_ble_eq_true rfl) (Nat.le_of_ble_eq_true rfl) (show decode mX8_findsTurns.2.1 37 = .ok (.invokevirtual 113, 3) by decide +kernel) hd hR (fun r9 h1 hq => ?_)
    obtain ⟨r8, rfl, hq⟩ := hq
    rcases hq with ⟨rfl, hR⟩ | ⟨rfl, hR⟩
    · show xG _ _ _ 40 _ [.inl 1] _ _
      refine x_if_ne (pc := 40) (tgt := 46) (show decode mX8_findsTurns.2.1 40 = .ok (.ifCond .ne 6, 3) by decide +kernel) (by decide) (by unfold inI; decide) (fun _ => ?_) (fun hc => absurd hc (by decide))
      refine x_aload_n (pc := 46) (show decode mX8_findsTurns.2.1 46 = .ok (.aload_n 0, 1) by decide +kernel) rfl rfl ?_
      refine x_iload_n (pc := 47) (show decode mX8_findsTurns.2.1 47 = .ok (.iload_n 2, 1) by decide +kernel) rfl rfl ?_
      refine x_iload_n (pc := 48) (show decode mX8_findsTurns.2.1 48 = .ok (.iload_n 1, 1) by decide +kernel) rfl rfl ?_
      refine x_callV (pc := 49) (As := [.inl x2, .inl x1]) (rest := []) (lk8_106 rfl) im_X8_isFilled sl_X8_isFilled rfl rfl rfl (Nat.le_of_ble_eq_true rfl) (Nat.le_of_ble_eq_true rfl) (show decode mX8_findsTurns.2.1 49 = .ok (.invokevirtual 106, 3) by decide +kernel) hd hR (fun r9 h2 hq => ?_)
      obtain ⟨r8, rfl, hq⟩ := hq
      rcases hq with ⟨rfl, hR⟩ | ⟨rfl, hR⟩
      · show xG _ _ _ 52 _ [.inl 1] _ _
        refine x_if_eq (pc := 52) (tgt := 83) (show decode mX8_findsTurns.2.1 52 = .ok (.ifCond .eq 31, 3) by decide +kernel) (by decide) (by unfold inI; decide) (fun hc => absurd hc (by decide)) (fun _ => ?_)
        refine x_aload_n (pc := 55) (show decode mX8_findsTurns.2.1 55 = .ok (.aload_n 0, 1) by decide +kernel) rfl rfl ?_
        refine x_getR (pc := 56) f8_41 rfl rfl (show decode mX8_findsTurns.2.1 56 = .ok (.getfield 41, 3) by decide +kernel) ?_
        refine x_aload_n (pc := 59) (show decode mX8_findsTurns.2.1 59 = .ok (.aload_n 0, 1) by decide +kernel) rfl rfl ?_
        refine x_getI (pc := 60) (ki := 15) f8_198 rfl rfl (by decide) rfl (show decode mX8_findsTurns.2.1 60 = .ok (.getfield 198, 3) by decide +kernel) ?_
        refine x_bipush (pc := 63) (n := 100) (show decode mX8_findsTurns.2.1 63 = .ok (.bipush 100, 2) by decide +kernel) rfl ?_
        refine x_iload_n (pc := 65) (show decode mX8_findsTurns.2.1 65 = .ok (.iload_n 2, 1) by decide +kernel) rfl rfl ?_
        refine x_imul (pc := 66) (show decode mX8_findsTurns.2.1 66 = .ok (.imul, 1) by decide +kernel) ?_
        refine x_iload_n (pc := 67) (show decode mX8_findsTurns.2.1 67 = .ok (.iload_n 1, 1) by decide +kernel) rfl rfl ?_
        refine x_iadd (pc := 68) (show decode mX8_findsTurns.2.1 68 = .ok (.iadd, 1) by decide +kernel) ?_
        obtain ⟨hg, hR⟩ := hR
        refine x_iast (pc := 69) rfl (by decide) hg (show decode mX8_findsTurns.2.1 69 = .ok (.iastore, 1) by decide +kernel) ?_
        refine x_aload_n (pc := 70) (show decode mX8_findsTurns.2.1 70 = .ok (.aload_n 0, 1) by decide +kernel) rfl rfl ?_
        refine x_dup (pc := 71) (show decode mX8_findsTurns.2.1 71 = .ok (.dup, 1) by decide +kernel) rfl ?_
        refine x_getI (pc := 72) (ki := 15) f8_198 rfl rfl (by decide) rfl (show decode mX8_findsTurns.2.1 72 = .ok (.getfield 198, 3) by decide +kernel) ?_
        refine x_iconst (pc := 75) (n := 1) (show decode mX8_findsTurns.2.1 75 = .ok (.iconst 1, 1) by decide +kernel) ?_
        refine x_iadd (pc := 76) (show decode mX8_findsTurns.2.1 76 = .ok (.iadd, 1) by decide +kernel) ?_
        refine x_putI (pc := 77) (ki := 15) f8_198 fp8_15 rfl rfl rfl (show decode mX8_findsTurns.2.1 77 = .ok (.putfield 198, 3) by decide +kernel) ?_
        refine x_goto (pc := 80) (tgt := 108) (show decode mX8_findsTurns.2.1 80 = .ok (.goto 28, 3) by decide +kernel) (by decide) ?_
        refine x_iinc (pc := 108) (ls' := [some (.inr (.inr 0)), some (.inl x1), some (.inl (x2 + 1))]) (show decode mX8_findsTurns.2.1 108 = .ok (.iinc 2 1, 3) by decide +kernel) (by decide) rfl rfl ?_
        refine x_goto (pc := 111) (tgt := 20) (show decode mX8_findsTurns.2.1 111 = .ok (.goto (-91), 3) by decide +kernel) (by decide) ?_
        exact hR
      · show xG _ _ _ 52 _ [.inl 0] _ _
        refine x_if_eq (pc := 52) (tgt := 83) (show decode mX8_findsTurns.2.1 52 = .ok (.ifCond .eq 31, 3) by decide +kernel) (by decide) (by unfold inI; decide) (fun _ => ?_) (fun hc => absurd hc (by decide))
        refine x_aload_n (pc := 83) (show decode mX8_findsTurns.2.1 83 = .ok (.aload_n 0, 1) by decide +kernel) rfl rfl ?_
        refine x_getR (pc := 84) f8_44 rfl rfl (show decode mX8_findsTurns.2.1 84 = .ok (.getfield 44, 3) by decide +kernel) ?_
        refine x_aload_n (pc := 87) (show decode mX8_findsTurns.2.1 87 = .ok (.aload_n 0, 1) by decide +kernel) rfl rfl ?_
        refine x_getI (pc := 88) (ki := 16) f8_201 rfl rfl (by decide) rfl (show decode mX8_findsTurns.2.1 88 = .ok (.getfield 201, 3) by decide +kernel) ?_
        refine x_bipush (pc := 91) (n := 100) (show decode mX8_findsTurns.2.1 91 = .ok (.bipush 100, 2) by decide +kernel) rfl ?_
        refine x_iload_n (pc := 93) (show decode mX8_findsTurns.2.1 93 = .ok (.iload_n 2, 1) by decide +kernel) rfl rfl ?_
        refine x_imul (pc := 94) (show decode mX8_findsTurns.2.1 94 = .ok (.imul, 1) by decide +kernel) ?_
        refine x_iload_n (pc := 95) (show decode mX8_findsTurns.2.1 95 = .ok (.iload_n 1, 1) by decide +kernel) rfl rfl ?_
        refine x_iadd (pc := 96) (show decode mX8_findsTurns.2.1 96 = .ok (.iadd, 1) by decide +kernel) ?_
        obtain ⟨hg, hR⟩ := hR
        refine x_iast (pc := 97) rfl (by decide) hg (show decode mX8_findsTurns.2.1 97 = .ok (.iastore, 1) by decide +kernel) ?_
        refine x_aload_n (pc := 98) (show decode mX8_findsTurns.2.1 98 = .ok (.aload_n 0, 1) by decide +kernel) rfl rfl ?_
        refine x_dup (pc := 99) (show decode mX8_findsTurns.2.1 99 = .ok (.dup, 1) by decide +kernel) rfl ?_
        refine x_getI (pc := 100) (ki := 16) f8_201 rfl rfl (by decide) rfl (show decode mX8_findsTurns.2.1 100 = .ok (.getfield 201, 3) by decide +kernel) ?_
        refine x_iconst (pc := 103) (n := 1) (show decode mX8_findsTurns.2.1 103 = .ok (.iconst 1, 1) by decide +kernel) ?_
        refine x_iadd (pc := 104) (show decode mX8_findsTurns.2.1 104 = .ok (.iadd, 1) by decide +kernel) ?_
        refine x_putI (pc := 105) (ki := 16) f8_201 fp8_16 rfl rfl rfl (show decode mX8_findsTurns.2.1 105 = .ok (.putfield 201, 3) by decide +kernel) ?_
        refine x_iinc (pc := 108) (ls' := [some (.inr (.inr 0)), some (.inl x1), some (.inl (x2 + 1))]) (show decode mX8_findsTurns.2.1 108 = .ok (.iinc 2 1, 3) by decide +kernel) (by decide) rfl rfl ?_
        refine x_goto (pc := 111) (tgt := 20) (show decode mX8_findsTurns.2.1 111 = .ok (.goto (-91), 3) by decide +kernel) (by decide) ?_
        exact hR
    · show xG _ _ _ 40 _ [.inl 0] _ _
      refine x_if_ne (pc := 40) (tgt := 46) (show decode mX8_findsTurns.2.1 40 = .ok (.ifCond .ne 6, 3) by decide +kernel) (by decide) (by unfold inI; decide) (fun hc => absurd hc (by decide)) (fun _ => ?_)
      refine x_goto (pc := 43) (tgt := 108) (show decode mX8_findsTurns.2.1 43 = .ok (.goto 65, 3) by decide +kernel) (by decide) ?_
      refine x_iinc (pc := 108) (ls' := [some (.inr (.inr 0)), some (.inl x1), some (.inl (x2 + 1))]) (show decode mX8_findsTurns.2.1 108 = .ok (.iinc 2 1, 3) by decide +kernel) (by decide) rfl rfl ?_
      refine x_goto (pc := 111) (tgt := 20) (show decode mX8_findsTurns.2.1 111 = .ok (.goto (-91), 3) by decide +kernel) (by decide) ?_
      exact hR
set_option maxRecDepth 4000 in
theorem sg_X8_joins_0 {d : Nat} {x1 x2 x3 x4 : Int} {h : xH} {Q : xH → Prop}
    (hR : (inI x1 ∧ inI (h 0 15)) ∧ (¬ x1 = (h 0 15) → gV wdM d mX8_joins 81 [some (.inr (.inr 0)), some (.inl x1), some (.inl x2), some (.inl x3), some (.inl x4), some (.inl 0)] h Q) ∧ (x1 = (h 0 15) → (inI x3 ∧ inI (h 0 17)) ∧ (x3 < (h 0 17) → Q h) ∧ ((h 0 17) ≤ x3 → (inI x3 ∧ inI (h 0 17)) ∧ (¬ x3 = (h 0 17) → gV wdM d mX8_joins 48 [some (.inr (.inr 0)), none, none, none, none, some (.inl 0)] (xu (xu h 0 17 x3) 0 18 x4) Q) ∧ (x3 = (h 0 17) → (inI x4 ∧ inI (h 0 18)) ∧ (x4 < (h 0 18) → gV wdM d mX8_joins 48 [some (.inr (.inr 0)), none, none, none, none, some (.inl 0)] (xu (xu h 0 17 x3) 0 18 x4) Q) ∧ ((h 0 18) ≤ x4 → Q h))))) :
    gV wdM d mX8_joins 0 [some (.inr (.inr 0)), some (.inl x1), some (.inl x2), some (.inl x3), some (.inl x4), none] h Q := by
  unfold gV
  refine x_iload_n (pc := 0) (show decode mX8_joins.2.1 0 = .ok (.iload_n 1, 1) by decide +kernel) rfl rfl ?_
  refine x_aload_n (pc := 1) (show decode mX8_joins.2.1 1 = .ok (.aload_n 0, 1) by decide +kernel) rfl rfl ?_
  refine x_getI (pc := 2) (ki := 15) f8_198 rfl rfl (by decide) rfl (show decode mX8_joins.2.1 2 = .ok (.getfield 198, 3) by decide +kernel) ?_
  obtain ⟨hg, hR⟩ := hR
  refine x_icmp_ne (pc := 5) (tgt := 78) (show decode mX8_joins.2.1 5 = .ok (.if_icmp .ne 73, 3) by decide +kernel) (by decide) ⟨hg.1, hg.2⟩ (fun hc => ?_) (fun hc => ?_)
  · replace hR := hR.1 hc
    refine x_iconst (pc := 78) (n := 0) (show decode mX8_joins.2.1 78 = .ok (.iconst 0, 1) by decide +kernel) ?_
    refine x_istore (pc := 79) (ls' := [some (.inr (.inr 0)), some (.inl x1), some (.inl x2), some (.inl x3), some (.inl x4), some (.inl 0)]) (show decode mX8_joins.2.1 79 = .ok (.istore 5, 2) by decide +kernel) (by decide) rfl ?_
    exact hR
  · replace hR := hR.2 hc
    refine x_iload_n (pc := 8) (show decode mX8_joins.2.1 8 = .ok (.iload_n 3, 1) by decide +kernel) rfl rfl ?_
    refine x_aload_n (pc := 9) (show decode mX8_joins.2.1 9 = .ok (.aload_n 0, 1) by decide +kernel) rfl rfl ?_
    refine x_getI (pc := 10) (ki := 17) f8_204 rfl rfl (by decide) rfl (show decode mX8_joins.2.1 10 = .ok (.getfield 204, 3) by decide +kernel) ?_
    obtain ⟨hg, hR⟩ := hR
    refine x_icmp_lt (pc := 13) (tgt := 33) (show decode mX8_joins.2.1 13 = .ok (.if_icmp .lt 20, 3) by decide +kernel) (by decide) ⟨hg.1, hg.2⟩ (fun hc => ?_) (fun hc => ?_)
    · replace hR := hR.1 hc
      exact x_vret (pc := 33) rfl (show decode mX8_joins.2.1 33 = .ok (.return_, 1) by decide +kernel) ⟨rfl, hR⟩
    · replace hR := hR.2 hc
      refine x_iload_n (pc := 16) (show decode mX8_joins.2.1 16 = .ok (.iload_n 3, 1) by decide +kernel) rfl rfl ?_
      refine x_aload_n (pc := 17) (show decode mX8_joins.2.1 17 = .ok (.aload_n 0, 1) by decide +kernel) rfl rfl ?_
      refine x_getI (pc := 18) (ki := 17) f8_204 rfl rfl (by decide) rfl (show decode mX8_joins.2.1 18 = .ok (.getfield 204, 3) by decide +kernel) ?_
      obtain ⟨hg, hR⟩ := hR
      refine x_icmp_ne (pc := 21) (tgt := 34) (show decode mX8_joins.2.1 21 = .ok (.if_icmp .ne 13, 3) by decide +kernel) (by decide) ⟨hg.1, hg.2⟩ (fun hc => ?_) (fun hc => ?_)
      · replace hR := hR.1 hc
        refine x_aload_n (pc := 34) (show decode mX8_joins.2.1 34 = .ok (.aload_n 0, 1) by decide +kernel) rfl rfl ?_
        refine x_iload_n (pc := 35) (show decode mX8_joins.2.1 35 = .ok (.iload_n 3, 1) by decide +kernel) rfl rfl ?_
        refine x_putI (pc := 36) (ki := 17) f8_204 fp8_17 rfl rfl rfl (show decode mX8_joins.2.1 36 = .ok (.putfield 204, 3) by decide +kernel) ?_
        refine x_aload_n (pc := 39) (show decode mX8_joins.2.1 39 = .ok (.aload_n 0, 1) by decide +kernel) rfl rfl ?_
        refine x_iload (pc := 40) (show decode mX8_joins.2.1 40 = .ok (.iload 4, 2) by decide +kernel) rfl ?_
        refine x_putI (pc := 42) (ki := 18) f8_207 fp8_18 rfl rfl rfl (show decode mX8_joins.2.1 42 = .ok (.putfield 207, 3) by decide +kernel) ?_
        refine x_iconst (pc := 45) (n := 0) (show decode mX8_joins.2.1 45 = .ok (.iconst 0, 1) by decide +kernel) ?_
        refine x_istore (pc := 46) (ls' := [some (.inr (.inr 0)), some (.inl x1), some (.inl x2), some (.inl x3), some (.inl x4), some (.inl 0)]) (show decode mX8_joins.2.1 46 = .ok (.istore 5, 2) by decide +kernel) (by decide) rfl ?_
        exact x_weak (xle_get (by repeat' constructor)) hR
      · replace hR := hR.2 hc
        refine x_iload (pc := 24) (show decode mX8_joins.2.1 24 = .ok (.iload 4, 2) by decide +kernel) rfl ?_
        refine x_aload_n (pc := 26) (show decode mX8_joins.2.1 26 = .ok (.aload_n 0, 1) by decide +kernel) rfl rfl ?_
        refine x_getI (pc := 27) (ki := 18) f8_207 rfl rfl (by decide) rfl (show decode mX8_joins.2.1 27 = .ok (.getfield 207, 3) by decide +kernel) ?_
        obtain ⟨hg, hR⟩ := hR
        refine x_icmp_lt (pc := 30) (tgt := 34) (show decode mX8_joins.2.1 30 = .ok (.if_icmp .lt 4, 3) by decide +kernel) (by decide) ⟨hg.1, hg.2⟩ (fun hc => ?_) (fun hc => ?_)
        · replace hR := hR.1 hc
          refine x_aload_n (pc := 34) (show decode mX8_joins.2.1 34 = .ok (.aload_n 0, 1) by decide +kernel) rfl rfl ?_
          refine x_iload_n (pc := 35) (show decode mX8_joins.2.1 35 = .ok (.iload_n 3, 1) by decide +kernel) rfl rfl ?_
          refine x_putI (pc := 36) (ki := 17) f8_204 fp8_17 rfl rfl rfl (show decode mX8_joins.2.1 36 = .ok (.putfield 204, 3) by decide +kernel) ?_
          refine x_aload_n (pc := 39) (show decode mX8_joins.2.1 39 = .ok (.aload_n 0, 1) by decide +kernel) rfl rfl ?_
          refine x_iload (pc := 40) (show decode mX8_joins.2.1 40 = .ok (.iload 4, 2) by decide +kernel) rfl ?_
          refine x_putI (pc := 42) (ki := 18) f8_207 fp8_18 rfl rfl rfl (show decode mX8_joins.2.1 42 = .ok (.putfield 207, 3) by decide +kernel) ?_
          refine x_iconst (pc := 45) (n := 0) (show decode mX8_joins.2.1 45 = .ok (.iconst 0, 1) by decide +kernel) ?_
          refine x_istore (pc := 46) (ls' := [some (.inr (.inr 0)), some (.inl x1), some (.inl x2), some (.inl x3), some (.inl x4), some (.inl 0)]) (show decode mX8_joins.2.1 46 = .ok (.istore 5, 2) by decide +kernel) (by decide) rfl ?_
          exact x_weak (xle_get (by repeat' constructor)) hR
        · replace hR := hR.2 hc
          exact x_vret (pc := 33) rfl (show decode mX8_joins.2.1 33 = .ok (.return_, 1) by decide +kernel) ⟨rfl, hR⟩
set_option maxRecDepth 4000 in
theorem sg_X8_joins_48 {d : Nat} {x5 : Int} {h : xH} {Q : xH → Prop}
    (hR : (inI x5 ∧ inI (h 0 15)) ∧ ((h 0 15) ≤ x5 → Q h) ∧ (x5 < (h 0 15) → (0 ≤ x5 ∧ x5 < 10) ∧ (0 ≤ x5 ∧ x5 < 10) ∧ gV wdM d mX8_joins 48 [some (.inr (.inr 0)), none, none, none, none, some (.inl (x5 + 1))] (xu h 13 x5 (h 12 x5)) Q)) :
    gV wdM d mX8_joins 48 [some (.inr (.inr 0)), none, none, none, none, some (.inl x5)] h Q := by
  unfold gV
  refine x_iload (pc := 48) (show decode mX8_joins.2.1 48 = .ok (.iload 5, 2) by decide +kernel) rfl ?_
  refine x_aload_n (pc := 50) (show decode mX8_joins.2.1 50 = .ok (.aload_n 0, 1) by decide +kernel) rfl rfl ?_
  refine x_getI (pc := 51) (ki := 15) f8_198 rfl rfl (by decide) rfl (show decode mX8_joins.2.1 51 = .ok (.getfield 198, 3) by decide +kernel) ?_
  obtain ⟨hg, hR⟩ := hR
  refine x_icmp_ge (pc := 54) (tgt := 77) (show decode mX8_joins.2.1 54 = .ok (.if_icmp .ge 23, 3) by decide +kernel) (by decide) ⟨hg.1, hg.2⟩ (fun hc => ?_) (fun hc => ?_)
  · replace hR := hR.1 hc
    exact x_vret (pc := 77) rfl (show decode mX8_joins.2.1 77 = .ok (.return_, 1) by decide +kernel) ⟨rfl, hR⟩
  · replace hR := hR.2 hc
    refine x_aload_n (pc := 57) (show decode mX8_joins.2.1 57 = .ok (.aload_n 0, 1) by decide +kernel) rfl rfl ?_
    refine x_getR (pc := 58) f8_50 rfl rfl (show decode mX8_joins.2.1 58 = .ok (.getfield 50, 3) by decide +kernel) ?_
    refine x_iload (pc := 61) (show decode mX8_joins.2.1 61 = .ok (.iload 5, 2) by decide +kernel) rfl ?_
    refine x_aload_n (pc := 63) (show decode mX8_joins.2.1 63 = .ok (.aload_n 0, 1) by decide +kernel) rfl rfl ?_
    refine x_getR (pc := 64) f8_47 rfl rfl (show decode mX8_joins.2.1 64 = .ok (.getfield 47, 3) by decide +kernel) ?_
    refine x_iload (pc := 67) (show decode mX8_joins.2.1 67 = .ok (.iload 5, 2) by decide +kernel) rfl ?_
    obtain ⟨hg, hR⟩ := hR
    refine x_iald (pc := 69) rfl (by decide) hg (show decode mX8_joins.2.1 69 = .ok (.iaload, 1) by decide +kernel) ?_
    obtain ⟨hg, hR⟩ := hR
    refine x_iast (pc := 70) rfl (by decide) hg (show decode mX8_joins.2.1 70 = .ok (.iastore, 1) by decide +kernel) ?_
    refine x_iinc (pc := 71) (ls' := [some (.inr (.inr 0)), none, none, none, none, some (.inl (x5 + 1))]) (show decode mX8_joins.2.1 71 = .ok (.iinc 5 1, 3) by decide +kernel) (by decide) rfl rfl ?_
    refine x_goto (pc := 74) (tgt := 48) (show decode mX8_joins.2.1 74 = .ok (.goto (-26), 3) by decide +kernel) (by decide) ?_
    exact hR
set_option maxRecDepth 4000 in
theorem sg_X8_joins_81 {d : Nat} {x1 x2 x3 x4 x5 : Int} {h : xH} {Q : xH → Prop} (hd : 1 ≤ d)
    (hR : (inI x5 ∧ inI (h 0 16)) ∧ ((h 0 16) ≤ x5 → (0 ≤ x1 ∧ x1 < 10) ∧ cV wdM (d - 1) mX8_joins [.inr (.inr 0), .inl (x1 + 1), .inl x2, .inl x3, .inl x4] (xu h 12 x1 (-1)) (fun h1 => Q h1)) ∧ (x5 < (h 0 16) → (inI x2 ∧ 0 ≤ x5 ∧ x5 ≤ 31) ∧ (inI (xandI (x2 / 2 ^ (Int.toNat x5)) 1)) ∧ ((xandI (x2 / 2 ^ (Int.toNat x5)) 1) = 1 → gV wdM d mX8_joins 81 [some (.inr (.inr 0)), some (.inl x1), some (.inl x2), some (.inl x3), some (.inl x4), some (.inl (x5 + 1))] h Q) ∧ (¬ (xandI (x2 / 2 ^ (Int.toNat x5)) 1) = 1 → (0 ≤ x5 ∧ x5 < 10) ∧ (0 ≤ (h 11 x5) ∧ inI (h 11 x5)) ∧ (0 ≤ x1 ∧ x1 < 10) ∧ (0 ≤ (h 10 x1) ∧ inI (h 10 x1)) ∧ (inI ((h 11 x5) % 100) ∧ inI ((h 10 x1) % 100)) ∧ (((h 11 x5) % 100) < ((h 10 x1) % 100) → (0 ≤ x1 ∧ x1 < 10) ∧ (0 ≤ x5 ∧ x5 ≤ 31) ∧ (0 ≤ x5 ∧ x5 < 10) ∧ (0 ≤ (h 11 x5) ∧ inI (h 11 x5)) ∧ (0 ≤ x1 ∧ x1 < 10) ∧ (0 ≤ (h 10 x1) ∧ inI (h 10 x1)) ∧ (inI (((h 11 x5) / 100) - ((h 10 x1) / 100))) ∧ cV wdM (d - 1) mX8_joins [.inr (.inr 0), .inl (x1 + 1), .inl (xorI x2 (1 * 2 ^ (Int.toNat x5))), .inl (x3 + 1), .inl (x4 + (max (((h 11 x5) / 100) - ((h 10 x1) / 100)) (-(((h 11 x5) / 100) - ((h 10 x1) / 100)))))] (xu h 12 x1 x5) (fun h2 => gV wdM d mX8_joins 81 [some (.inr (.inr 0)), some (.inl x1), some (.inl x2), some (.inl x3), some (.inl x4), some (.inl (x5 + 1))] h2 Q)) ∧ (((h 10 x1) % 100) ≤ ((h 11 x5) % 100) → gV wdM d mX8_joins 81 [some (.inr (.inr 0)), some (.inl x1), some (.inl x2), some (.inl x3), some (.inl x4), some (.inl (x5 + 1))] h Q)))) :
    gV wdM d mX8_joins 81 [some (.inr (.inr 0)), some (.inl x1), some (.inl x2), some (.inl x3), some (.inl x4), some (.inl x5)] h Q := by
  unfold gV
  refine x_iload (pc := 81) (show decode mX8_joins.2.1 81 = .ok (.iload 5, 2) by decide +kernel) rfl ?_
  refine x_aload_n (pc := 83) (show decode mX8_joins.2.1 83 = .ok (.aload_n 0, 1) by decide +kernel) rfl rfl ?_
  refine x_getI (pc := 84) (ki := 16) f8_201 rfl rfl (by decide) rfl (show decode mX8_joins.2.1 84 = .ok (.getfield 201, 3) by decide +kernel) ?_
  obtain ⟨hg, hR⟩ := hR
  refine x_icmp_ge (pc := 87) (tgt := 181) (show decode mX8_joins.2.1 87 = .ok (.if_icmp .ge 94, 3) by decide +kernel) (by decide) ⟨hg.1, hg.2⟩ (fun hc => ?_) (fun hc => ?_)
  · replace hR := hR.1 hc
    refine x_aload_n (pc := 181) (show decode mX8_joins.2.1 181 = .ok (.aload_n 0, 1) by decide +kernel) rfl rfl ?_
    refine x_getR (pc := 182) f8_47 rfl rfl (show decode mX8_joins.2.1 182 = .ok (.getfield 47, 3) by decide +kernel) ?_
    refine x_iload_n (pc := 185) (show decode mX8_joins.2.1 185 = .ok (.iload_n 1, 1) by decide +kernel) rfl rfl ?_
    refine x_iconst (pc := 186) (n := (-1)) (show decode mX8_joins.2.1 186 = .ok (.iconst (-1), 1) by decide +kernel) ?_
    obtain ⟨hg, hR⟩ := hR
    refine x_iast (pc := 187) rfl (by decide) hg (show decode mX8_joins.2.1 187 = .ok (.iastore, 1) by decide +kernel) ?_
    refine x_aload_n (pc := 188) (show decode mX8_joins.2.1 188 = .ok (.aload_n 0, 1) by decide +kernel) rfl rfl ?_
    refine x_iload_n (pc := 189) (show decode mX8_joins.2.1 189 = .ok (.iload_n 1, 1) by decide +kernel) rfl rfl ?_
    refine x_iconst (pc := 190) (n := 1) (show decode mX8_joins.2.1 190 = .ok (.iconst 1, 1) by decide +kernel) ?_
    refine x_iadd (pc := 191) (show decode mX8_joins.2.1 191 = .ok (.iadd, 1) by decide +kernel) ?_
    refine x_iload_n (pc := 192) (show decode mX8_joins.2.1 192 = .ok (.iload_n 2, 1) by decide +kernel) rfl rfl ?_
    refine x_iload_n (pc := 193) (show decode mX8_joins.2.1 193 = .ok (.iload_n 3, 1) by decide +kernel) rfl rfl ?_
    refine x_iload (pc := 194) (show decode mX8_joins.2.1 194 = .ok (.iload 4, 2) by decide +kernel) rfl ?_
    refine x_callV (pc := 196) (As := [.inl (x1 + 1), .inl x2, .inl x3, .inl x4]) (rest := []) (lk8_210 rfl) im_X8_joins sl_X8_joins rfl rfl rfl (Nat.le_of_ble_eq_true rfl) (Nat.le_of_ble_eq_true rfl) (show decode mX8_joins.2.1 196 = .ok (.invokevirtual 210, 3) by decide +kernel) hd hR (fun r9 h1 hq => ?_)
    obtain ⟨rfl, hR⟩ := hq
    show xG _ _ _ 199 _ [] _ _
    exact x_vret (pc := 199) rfl (show decode mX8_joins.2.1 199 = .ok (.return_, 1) by decide +kernel) ⟨rfl, hR⟩
  · replace hR := hR.2 hc
    refine x_iload_n (pc := 90) (show decode mX8_joins.2.1 90 = .ok (.iload_n 2, 1) by decide +kernel) rfl rfl ?_
    refine x_iload (pc := 91) (show decode mX8_joins.2.1 91 = .ok (.iload 5, 2) by decide +kernel) rfl ?_
    obtain ⟨hg, hR⟩ := hR
    refine x_ishr (pc := 93) (show decode mX8_joins.2.1 93 = .ok (.ishr, 1) by decide +kernel) hg ?_
    refine x_iconst (pc := 94) (n := 1) (show decode mX8_joins.2.1 94 = .ok (.iconst 1, 1) by decide +kernel) ?_
    refine x_iand (pc := 95) (show decode mX8_joins.2.1 95 = .ok (.iand, 1) by decide +kernel) ?_
    refine x_iconst (pc := 96) (n := 1) (show decode mX8_joins.2.1 96 = .ok (.iconst 1, 1) by decide +kernel) ?_
    obtain ⟨hg, hR⟩ := hR
    refine x_icmp_eq (pc := 97) (tgt := 175) (show decode mX8_joins.2.1 97 = .ok (.if_icmp .eq 78, 3) by decide +kernel) (by decide) ⟨hg, (by unfold inI; decide)⟩ (fun hc => ?_) (fun hc => ?_)
    · replace hR := hR.1 hc
      refine x_iinc (pc := 175) (ls' := [some (.inr (.inr 0)), some (.inl x1), some (.inl x2), some (.inl x3), some (.inl x4), some (.inl (x5 + 1))]) (show decode mX8_joins.2.1 175 = .ok (.iinc 5 1, 3) by decide +kernel) (by decide) rfl rfl ?_
      refine x_goto (pc := 178) (tgt := 81) (show decode mX8_joins.2.1 178 = .ok (.goto (-97), 3) by decide +kernel) (by decide) ?_
      exact hR
    · replace hR := hR.2 hc
      refine x_aload_n (pc := 100) (show decode mX8_joins.2.1 100 = .ok (.aload_n 0, 1) by decide +kernel) rfl rfl ?_
      refine x_getR (pc := 101) f8_44 rfl rfl (show decode mX8_joins.2.1 101 = .ok (.getfield 44, 3) by decide +kernel) ?_
      refine x_iload (pc := 104) (show decode mX8_joins.2.1 104 = .ok (.iload 5, 2) by decide +kernel) rfl ?_
      obtain ⟨hg, hR⟩ := hR
      refine x_iald (pc := 106) rfl (by decide) hg (show decode mX8_joins.2.1 106 = .ok (.iaload, 1) by decide +kernel) ?_
      refine x_bipush (pc := 107) (n := 100) (show decode mX8_joins.2.1 107 = .ok (.bipush 100, 2) by decide +kernel) rfl ?_
      obtain ⟨hg, hR⟩ := hR
      refine x_irem (pc := 109) (show decode mX8_joins.2.1 109 = .ok (.irem, 1) by decide +kernel) ⟨hg, by decide, by unfold inI; decide⟩ ?_
      refine x_aload_n (pc := 110) (show decode mX8_joins.2.1 110 = .ok (.aload_n 0, 1) by decide +kernel) rfl rfl ?_
      refine x_getR (pc := 111) f8_41 rfl rfl (show decode mX8_joins.2.1 111 = .ok (.getfield 41, 3) by decide +kernel) ?_
      refine x_iload_n (pc := 114) (show decode mX8_joins.2.1 114 = .ok (.iload_n 1, 1) by decide +kernel) rfl rfl ?_
      obtain ⟨hg, hR⟩ := hR
      refine x_iald (pc := 115) rfl (by decide) hg (show decode mX8_joins.2.1 115 = .ok (.iaload, 1) by decide +kernel) ?_
      refine x_bipush (pc := 116) (n := 100) (show decode mX8_joins.2.1 116 = .ok (.bipush 100, 2) by decide +kernel) rfl ?_
      obtain ⟨hg, hR⟩ := hR
      refine x_irem (pc := 118) (show decode mX8_joins.2.1 118 = .ok (.irem, 1) by decide +kernel) ⟨hg, by decide, by unfold inI; decide⟩ ?_
      obtain ⟨hg, hR⟩ := hR
      refine x_icmp_lt (pc := 119) (tgt := 125) (show decode mX8_joins.2.1 119 = .ok (.if_icmp .lt 6, 3) by decide +kernel) (by decide) ⟨hg.1, hg.2⟩ (fun hc => ?_) (fun hc => ?_)
      · replace hR := hR.1 hc
        refine x_aload_n (pc := 125) (show decode mX8_joins.2.1 125 = .ok (.aload_n 0, 1) by decide +kernel) rfl rfl ?_
        refine x_getR (pc := 126) f8_47 rfl rfl (show decode mX8_joins.2.1 126 = .ok (.getfield 47, 3) by decide +kernel) ?_
        refine x_iload_n (pc := 129) (show decode mX8_joins.2.1 129 = .ok (.iload_n 1, 1) by decide +kernel) rfl rfl ?_
        refine x_iload (pc := 130) (show decode mX8_joins.2.1 130 = .ok (.iload 5, 2) by decide +kernel) rfl ?_
        obtain ⟨hg, hR⟩ := hR
        refine x_iast (pc := 132) rfl (by decide) hg (show decode mX8_joins.2.1 132 = .ok (.iastore, 1) by decide +kernel) ?_
        refine x_aload_n (pc := 133) (show decode mX8_joins.2.1 133 = .ok (.aload_n 0, 1) by decide +kernel) rfl rfl ?_
        refine x_iload_n (pc := 134) (show decode mX8_joins.2.1 134 = .ok (.iload_n 1, 1) by decide +kernel) rfl rfl ?_
        refine x_iconst (pc := 135) (n := 1) (show decode mX8_joins.2.1 135 = .ok (.iconst 1, 1) by decide +kernel) ?_
        refine x_iadd (pc := 136) (show decode mX8_joins.2.1 136 = .ok (.iadd, 1) by decide +kernel) ?_
        refine x_iload_n (pc := 137) (show decode mX8_joins.2.1 137 = .ok (.iload_n 2, 1) by decide +kernel) rfl rfl ?_
        refine x_iconst (pc := 138) (n := 1) (show decode mX8_joins.2.1 138 = .ok (.iconst 1, 1) by decide +kernel) ?_
        refine x_iload (pc := 139) (show decode mX8_joins.2.1 139 = .ok (.iload 5, 2) by decide +kernel) rfl ?_
        obtain ⟨hg, hR⟩ := hR
        refine x_ishl (pc := 141) (show decode mX8_joins.2.1 141 = .ok (.ishl, 1) by decide +kernel) hg ?_
        refine x_ior (pc := 142) (show decode mX8_joins.2.1 142 = .ok (.ior, 1) by decide +kernel) ?_
        refine x_iload_n (pc := 143) (show decode mX8_joins.2.1 143 = .ok (.iload_n 3, 1) by decide +kernel) rfl rfl ?_
        refine x_iconst (pc := 144) (n := 1) (show decode mX8_joins.2.1 144 = .ok (.iconst 1, 1) by decide +kernel) ?_
        refine x_iadd (pc := 145) (show decode mX8_joins.2.1 145 = .ok (.iadd, 1) by decide +kernel) ?_
        refine x_iload (pc := 146) (show decode mX8_joins.2.1 146 = .ok (.iload 4, 2) by decide +kernel) rfl ?_
        refine x_aload_n (pc := 148) (show decode mX8_joins.2.1 148 = .ok (.aload_n 0, 1) by decide +kernel) rfl rfl ?_
        refine x_getR (pc := 149) f8_44 rfl rfl (show decode mX8_joins.2.1 149 = .ok (.getfield 44, 3) by decide +kernel) ?_
        refine x_iload (pc := 152) (show decode mX8_joins.2.1 152 = .ok (.iload 5, 2) by decide +kernel) rfl ?_
        obtain ⟨hg, hR⟩ := hR
        refine x_iald (pc := 154) rfl (by decide) hg (show decode mX8_joins.2.1 154 = .ok (.iaload, 1) by decide +kernel) ?_
        refine x_bipush (pc := 155) (n := 100) (show decode mX8_joins.2.1 155 = .ok (.bipush 100, 2) by decide +kernel) rfl ?_
        obtain ⟨hg, hR⟩ := hR
        refine x_idiv (pc := 157) (show decode mX8_joins.2.1 157 = .ok (.idiv, 1) by decide +kernel) ⟨hg, by decide, by unfold inI; decide⟩ ?_
        refine x_aload_n (pc := 158) (show decode mX8_joins.2.1 158 = .ok (.aload_n 0, 1) by decide +kernel) rfl rfl ?_
        refine x_getR (pc := 159) f8_41 rfl rfl (show decode mX8_joins.2.1 159 = .ok (.getfield 41, 3) by decide +kernel) ?_
        refine x_iload_n (pc := 162) (show decode mX8_joins.2.1 162 = .ok (.iload_n 1, 1) by decide +kernel) rfl rfl ?_
        obtain ⟨hg, hR⟩ := hR
        refine x_iald (pc := 163) rfl (by decide) hg (show decode mX8_joins.2.1 163 = .ok (.iaload, 1) by decide +kernel) ?_
        refine x_bipush (pc := 164) (n := 100) (show decode mX8_joins.2.1 164 = .ok (.bipush 100, 2) by decide +kernel) rfl ?_
        obtain ⟨hg, hR⟩ := hR
        refine x_idiv (pc := 166) (show decode mX8_joins.2.1 166 = .ok (.idiv, 1) by decide +kernel) ⟨hg, by decide, by unfold inI; decide⟩ ?_
        refine x_isub (pc := 167) (show decode mX8_joins.2.1 167 = .ok (.isub, 1) by decide +kernel) ?_
        obtain ⟨hg, hR⟩ := hR
        refine x_mabs (pc := 168) (b := 0) (tblG_m6 40 rfl rfl) MA_st M_in MA_cd hg (Nat.le_of_ble_eq_true rfl) hd (show decode mX8_joins.2.1 168 = .ok (.invokestatic 176, 3) by decide +kernel) ?_
        refine x_iadd (pc := 171) (show decode mX8_joins.2.1 171 = .ok (.iadd, 1) by decide +kernel) ?_
        refine x_callV (pc := 172) (As := [.inl (x1 + 1), .inl (xorI x2 (1 * 2 ^ (Int.toNat x5))), .inl (x3 + 1), .inl (x4 + (max (((h 11 x5) / 100) - ((h 10 x1) / 100)) (-(((h 11 x5) / 100) - ((h 10 x1) / 100)))))]) (rest := []) (lk8_210 rfl) im_X8_joins sl_X8_joins rfl rfl rfl (Nat.le_of_ble_eq_true rfl) (Nat.le_of_ble_eq_true rfl) (show decode mX8_joins.2.1 172 = .ok (.invokevirtual 210, 3) by decide +kernel) hd hR (fun r9 h2 hq => ?_)
        obtain ⟨rfl, hR⟩ := hq
        show xG _ _ _ 175 _ [] _ _
        refine x_iinc (pc := 175) (ls' := [some (.inr (.inr 0)), some (.inl x1), some (.inl x2), some (.inl x3), some (.inl x4), some (.inl (x5 + 1))]) (show decode mX8_joins.2.1 175 = .ok (.iinc 5 1, 3) by decide +kernel) (by decide) rfl rfl ?_
        refine x_goto (pc := 178) (tgt := 81) (show decode mX8_joins.2.1 178 = .ok (.goto (-97), 3) by decide +kernel) (by decide) ?_
        exact hR
      · replace hR := hR.2 hc
        refine x_goto (pc := 122) (tgt := 175) (show decode mX8_joins.2.1 122 = .ok (.goto 53, 3) by decide +kernel) (by decide) ?_
        refine x_iinc (pc := 175) (ls' := [some (.inr (.inr 0)), some (.inl x1), some (.inl x2), some (.inl x3), some (.inl x4), some (.inl (x5 + 1))]) (show decode mX8_joins.2.1 175 = .ok (.iinc 5 1, 3) by decide +kernel) (by decide) rfl rfl ?_
        refine x_goto (pc := 178) (tgt := 81) (show decode mX8_joins.2.1 178 = .ok (.goto (-97), 3) by decide +kernel) (by decide) ?_
        exact hR
set_option maxRecDepth 4000 in
theorem sg_X8_findsPairs_0 {d : Nat} {h : xH} {Q : xH → Prop} (hd : 1 ≤ d)
    (hR : cV wdM (d - 1) mX8_findsTurns [.inr (.inr 0)] h (fun h1 => cV wdM (d - 1) mX8_joins [.inr (.inr 0), .inl 0, .inl 0, .inl 0, .inl 0] (xu (xu h1 0 17 (-1)) 0 18 0) (fun h2 => Q h2))) :
    gV wdM d mX8_findsPairs 0 [some (.inr (.inr 0))] h Q := by
  unfold gV
  refine x_aload_n (pc := 0) (show decode mX8_findsPairs.2.1 0 = .ok (.aload_n 0, 1) by decide +kernel) rfl rfl ?_
  refine x_callV (pc := 1) (As := []) (rest := []) (lk8_214 rfl) im_X8_findsTurns sl_X8_findsTurns rfl rfl rfl (Nat.le_of_ble_eq_true rfl) (Nat.le_of_ble_eq_true rfl) (show decode mX8_findsPairs.2.1 1 = .ok (.invokevirtual 214, 3) by decide +kernel) hd hR (fun r9 h1 hq => ?_)
  obtain ⟨rfl, hR⟩ := hq
  show xG _ _ _ 4 _ [] _ _
  refine x_aload_n (pc := 4) (show decode mX8_findsPairs.2.1 4 = .ok (.aload_n 0, 1) by decide +kernel) rfl rfl ?_
  refine x_iconst (pc := 5) (n := (-1)) (show decode mX8_findsPairs.2.1 5 = .ok (.iconst (-1), 1) by decide +kernel) ?_
  refine x_putI (pc := 6) (ki := 17) f8_204 fp8_17 rfl rfl rfl (show decode mX8_findsPairs.2.1 6 = .ok (.putfield 204, 3) by decide +kernel) ?_
  refine x_aload_n (pc := 9) (show decode mX8_findsPairs.2.1 9 = .ok (.aload_n 0, 1) by decide +kernel) rfl rfl ?_
  refine x_iconst (pc := 10) (n := 0) (show decode mX8_findsPairs.2.1 10 = .ok (.iconst 0, 1) by decide +kernel) ?_
  refine x_putI (pc := 11) (ki := 18) f8_207 fp8_18 rfl rfl rfl (show decode mX8_findsPairs.2.1 11 = .ok (.putfield 207, 3) by decide +kernel) ?_
  refine x_aload_n (pc := 14) (show decode mX8_findsPairs.2.1 14 = .ok (.aload_n 0, 1) by decide +kernel) rfl rfl ?_
  refine x_iconst (pc := 15) (n := 0) (show decode mX8_findsPairs.2.1 15 = .ok (.iconst 0, 1) by decide +kernel) ?_
  refine x_iconst (pc := 16) (n := 0) (show decode mX8_findsPairs.2.1 16 = .ok (.iconst 0, 1) by decide +kernel) ?_
  refine x_iconst (pc := 17) (n := 0) (show decode mX8_findsPairs.2.1 17 = .ok (.iconst 0, 1) by decide +kernel) ?_
  refine x_iconst (pc := 18) (n := 0) (show decode mX8_findsPairs.2.1 18 = .ok (.iconst 0, 1) by decide +kernel) ?_
  refine x_callV (pc := 19) (As := [.inl 0, .inl 0, .inl 0, .inl 0]) (rest := []) (lk8_210 rfl) im_X8_joins sl_X8_joins rfl rfl rfl (Nat.le_of_ble_eq_true rfl) (Nat.le_of_ble_eq_true rfl) (show decode mX8_findsPairs.2.1 19 = .ok (.invokevirtual 210, 3) by decide +kernel) hd hR (fun r9 h2 hq => ?_)
  obtain ⟨rfl, hR⟩ := hq
  show xG _ _ _ 22 _ [] _ _
  exact x_vret (pc := 22) rfl (show decode mX8_findsPairs.2.1 22 = .ok (.return_, 1) by decide +kernel) ⟨rfl, hR⟩
set_option maxRecDepth 4000 in
theorem sg_X8_pairs_0 {d : Nat} {x1 : Int} {h : xH} {Q : Int → xH → Prop} (hd : 1 ≤ d)
    (hR : inI x1 ∧ cB wdM (d - 1) mX8_isIn [.inr (.inl x1), .inr (.inl 0), .inr (.inl 2)] h (fun h1 => cV wdM (d - 1) mX8_findsPairs [.inr (.inr 0)] h1 (fun h2 => (inI x1) ∧ (x1 ≤ 0 → gI wdM d mX8_pairs 51 [some (.inr (.inr 0)), none, some (.inl ((h2 0 15) - (h2 0 17))), some (.inl 0)] h2 Q) ∧ (0 < x1 → (inI x1) ∧ (¬ x1 = 1 → Q (h2 0 18) h2) ∧ (x1 = 1 → Q (h2 0 17) h2)))) (fun h1 => Q (-1) h1)) :
    gI wdM d mX8_pairs 0 [some (.inr (.inr 0)), some (.inl x1), none, none] h Q := by
  unfold gI
  refine x_iload_n (pc := 0) (show decode mX8_pairs.2.1 0 = .ok (.iload_n 1, 1) by decide +kernel) rfl rfl ?_
  obtain ⟨hg, hR⟩ := hR
  refine x_i2l (pc := 1) (show decode mX8_pairs.2.1 1 = .ok (.i2l, 1) by decide +kernel) hg ?_
  refine x_lconst (pc := 2) (v := 0) (show decode mX8_pairs.2.1 2 = .ok (.lconst 0, 1) by decide +kernel) rfl ?_
  refine x_ldc2 (pc := 3) (n := 2) (tblG_m5 92 rfl rfl) rfl (show decode mX8_pairs.2.1 3 = .ok (.ldc2_w 83, 3) by decide +kernel) ?_
  refine x_callS (pc := 6) (As := [.inr (.inl x1), .inr (.inl 0), .inr (.inl 2)]) (rest := []) (lk8_79 rfl) sm_X8_isIn (Nat.le_of_ble_eq_true rfl) (Nat.le_of_ble_eq_true rfl) (show decode mX8_pairs.2.1 6 = .ok (.invokestatic 79, 3) by decide +kernel) hd hR (fun r9 h1 hq => ?_)
  obtain ⟨r8, rfl, hq⟩ := hq
  rcases hq with ⟨rfl, hR⟩ | ⟨rfl, hR⟩
  · show xG _ _ _ 9 _ [.inl 1] _ _
    refine x_if_ne (pc := 9) (tgt := 14) (show decode mX8_pairs.2.1 9 = .ok (.ifCond .ne 5, 3) by decide +kernel) (by decide) (by unfold inI; decide) (fun _ => ?_) (fun hc => absurd hc (by decide))
    refine x_aload_n (pc := 14) (show decode mX8_pairs.2.1 14 = .ok (.aload_n 0, 1) by decide +kernel) rfl rfl ?_
    refine x_callV (pc := 15) (As := []) (rest := []) (lk8_217 rfl) im_X8_findsPairs sl_X8_findsPairs rfl rfl rfl (Nat.le_of_ble_eq_true rfl) (Nat.le_of_ble_eq_true rfl) (show decode mX8_pairs.2.1 15 = .ok (.invokevirtual 217, 3) by decide +kernel) hd hR (fun r9 h2 hq => ?_)
    obtain ⟨rfl, hR⟩ := hq
    show xG _ _ _ 18 _ [] _ _
    refine x_iload_n (pc := 18) (show decode mX8_pairs.2.1 18 = .ok (.iload_n 1, 1) by decide +kernel) rfl rfl ?_
    obtain ⟨hg, hR⟩ := hR
    refine x_if_le (pc := 19) (tgt := 39) (show decode mX8_pairs.2.1 19 = .ok (.ifCond .le 20, 3) by decide +kernel) (by decide) hg (fun hc => ?_) (fun hc => ?_)
    · replace hR := hR.1 hc
      refine x_aload_n (pc := 39) (show decode mX8_pairs.2.1 39 = .ok (.aload_n 0, 1) by decide +kernel) rfl rfl ?_
      refine x_getI (pc := 40) (ki := 15) f8_198 rfl rfl (by decide) rfl (show decode mX8_pairs.2.1 40 = .ok (.getfield 198, 3) by decide +kernel) ?_
      refine x_aload_n (pc := 43) (show decode mX8_pairs.2.1 43 = .ok (.aload_n 0, 1) by decide +kernel) rfl rfl ?_
      refine x_getI (pc := 44) (ki := 17) f8_204 rfl rfl (by decide) rfl (show decode mX8_pairs.2.1 44 = .ok (.getfield 204, 3) by decide +kernel) ?_
      refine x_isub (pc := 47) (show decode mX8_pairs.2.1 47 = .ok (.isub, 1) by decide +kernel) ?_
      refine x_istore_n (pc := 48) (ls' := [some (.inr (.inr 0)), some (.inl x1), some (.inl ((h2 0 15) - (h2 0 17))), none]) (show decode mX8_pairs.2.1 48 = .ok (.istore_n 2, 1) by decide +kernel) rfl (by decide) rfl ?_
      refine x_iconst (pc := 49) (n := 0) (show decode mX8_pairs.2.1 49 = .ok (.iconst 0, 1) by decide +kernel) ?_
      refine x_istore_n (pc := 50) (ls' := [some (.inr (.inr 0)), some (.inl x1), some (.inl ((h2 0 15) - (h2 0 17))), some (.inl 0)]) (show decode mX8_pairs.2.1 50 = .ok (.istore_n 3, 1) by decide +kernel) rfl (by decide) rfl ?_
      exact x_weak (xle_get (by repeat' constructor)) hR
    · replace hR := hR.2 hc
      refine x_iload_n (pc := 22) (show decode mX8_pairs.2.1 22 = .ok (.iload_n 1, 1) by decide +kernel) rfl rfl ?_
      refine x_iconst (pc := 23) (n := 1) (show decode mX8_pairs.2.1 23 = .ok (.iconst 1, 1) by decide +kernel) ?_
      obtain ⟨hg, hR⟩ := hR
      refine x_icmp_ne (pc := 24) (tgt := 34) (show decode mX8_pairs.2.1 24 = .ok (.if_icmp .ne 10, 3) by decide +kernel) (by decide) ⟨hg, (by unfold inI; decide)⟩ (fun hc => ?_) (fun hc => ?_)
      · replace hR := hR.1 hc
        refine x_aload_n (pc := 34) (show decode mX8_pairs.2.1 34 = .ok (.aload_n 0, 1) by decide +kernel) rfl rfl ?_
        refine x_getI (pc := 35) (ki := 18) f8_207 rfl rfl (by decide) rfl (show decode mX8_pairs.2.1 35 = .ok (.getfield 207, 3) by decide +kernel) ?_
        exact x_iret (pc := 38) rfl (show decode mX8_pairs.2.1 38 = .ok (.ireturn, 1) by decide +kernel) ⟨_, rfl, hR⟩
      · replace hR := hR.2 hc
        refine x_aload_n (pc := 27) (show decode mX8_pairs.2.1 27 = .ok (.aload_n 0, 1) by decide +kernel) rfl rfl ?_
        refine x_getI (pc := 28) (ki := 17) f8_204 rfl rfl (by decide) rfl (show decode mX8_pairs.2.1 28 = .ok (.getfield 204, 3) by decide +kernel) ?_
        refine x_goto (pc := 31) (tgt := 38) (show decode mX8_pairs.2.1 31 = .ok (.goto 7, 3) by decide +kernel) (by decide) ?_
        exact x_iret (pc := 38) rfl (show decode mX8_pairs.2.1 38 = .ok (.ireturn, 1) by decide +kernel) ⟨_, rfl, hR⟩
  · show xG _ _ _ 9 _ [.inl 0] _ _
    refine x_if_ne (pc := 9) (tgt := 14) (show decode mX8_pairs.2.1 9 = .ok (.ifCond .ne 5, 3) by decide +kernel) (by decide) (by unfold inI; decide) (fun hc => absurd hc (by decide)) (fun _ => ?_)
    refine x_iconst (pc := 12) (n := (-1)) (show decode mX8_pairs.2.1 12 = .ok (.iconst (-1), 1) by decide +kernel) ?_
    exact x_iret (pc := 13) rfl (show decode mX8_pairs.2.1 13 = .ok (.ireturn, 1) by decide +kernel) ⟨_, rfl, hR⟩
set_option maxRecDepth 4000 in
theorem sg_X8_pairs_51 {d : Nat} {x2 x3 : Int} {h : xH} {Q : Int → xH → Prop}
    (hR : (inI x3 ∧ inI (h 1 0)) ∧ ((h 1 0) ≤ x3 → Q x2 h) ∧ (x3 < (h 1 0) → (0 ≤ (125 + x3) ∧ (125 + x3) < 1705) ∧ gI wdM d mX8_pairs 51 [some (.inr (.inr 0)), none, some (.inl (x2 + (h 1 (125 + x3)))), some (.inl (x3 + 1))] h Q)) :
    gI wdM d mX8_pairs 51 [some (.inr (.inr 0)), none, some (.inl x2), some (.inl x3)] h Q := by
  unfold gI
  refine x_iload_n (pc := 51) (show decode mX8_pairs.2.1 51 = .ok (.iload_n 3, 1) by decide +kernel) rfl rfl ?_
  refine x_aload_n (pc := 52) (show decode mX8_pairs.2.1 52 = .ok (.aload_n 0, 1) by decide +kernel) rfl rfl ?_
  refine x_getR (pc := 53) f8_11 rfl rfl (show decode mX8_pairs.2.1 53 = .ok (.getfield 11, 3) by decide +kernel) ?_
  refine x_iconst (pc := 56) (n := 0) (show decode mX8_pairs.2.1 56 = .ok (.iconst 0, 1) by decide +kernel) ?_
  refine x_iald (pc := 57) rfl (by decide) (by decide) (show decode mX8_pairs.2.1 57 = .ok (.iaload, 1) by decide +kernel) ?_
  obtain ⟨hg, hR⟩ := hR
  refine x_icmp_ge (pc := 58) (tgt := 79) (show decode mX8_pairs.2.1 58 = .ok (.if_icmp .ge 21, 3) by decide +kernel) (by decide) ⟨hg.1, hg.2⟩ (fun hc => ?_) (fun hc => ?_)
  · replace hR := hR.1 hc
    refine x_iload_n (pc := 79) (show decode mX8_pairs.2.1 79 = .ok (.iload_n 2, 1) by decide +kernel) rfl rfl ?_
    exact x_iret (pc := 80) rfl (show decode mX8_pairs.2.1 80 = .ok (.ireturn, 1) by decide +kernel) ⟨_, rfl, hR⟩
  · replace hR := hR.2 hc
    refine x_iload_n (pc := 61) (show decode mX8_pairs.2.1 61 = .ok (.iload_n 2, 1) by decide +kernel) rfl rfl ?_
    refine x_aload_n (pc := 62) (show decode mX8_pairs.2.1 62 = .ok (.aload_n 0, 1) by decide +kernel) rfl rfl ?_
    refine x_getR (pc := 63) f8_11 rfl rfl (show decode mX8_pairs.2.1 63 = .ok (.getfield 11, 3) by decide +kernel) ?_
    refine x_bipush (pc := 66) (n := 125) (show decode mX8_pairs.2.1 66 = .ok (.bipush 125, 2) by decide +kernel) rfl ?_
    refine x_iload_n (pc := 68) (show decode mX8_pairs.2.1 68 = .ok (.iload_n 3, 1) by decide +kernel) rfl rfl ?_
    refine x_iadd (pc := 69) (show decode mX8_pairs.2.1 69 = .ok (.iadd, 1) by decide +kernel) ?_
    obtain ⟨hg, hR⟩ := hR
    refine x_iald (pc := 70) rfl (by decide) hg (show decode mX8_pairs.2.1 70 = .ok (.iaload, 1) by decide +kernel) ?_
    refine x_iadd (pc := 71) (show decode mX8_pairs.2.1 71 = .ok (.iadd, 1) by decide +kernel) ?_
    refine x_istore_n (pc := 72) (ls' := [some (.inr (.inr 0)), none, some (.inl (x2 + (h 1 (125 + x3)))), some (.inl x3)]) (show decode mX8_pairs.2.1 72 = .ok (.istore_n 2, 1) by decide +kernel) rfl (by decide) rfl ?_
    refine x_iinc (pc := 73) (ls' := [some (.inr (.inr 0)), none, some (.inl (x2 + (h 1 (125 + x3)))), some (.inl (x3 + 1))]) (show decode mX8_pairs.2.1 73 = .ok (.iinc 3 1, 3) by decide +kernel) (by decide) rfl rfl ?_
    refine x_goto (pc := 76) (tgt := 51) (show decode mX8_pairs.2.1 76 = .ok (.goto (-25), 3) by decide +kernel) (by decide) ?_
    exact hR
set_option maxRecDepth 4000 in
theorem sg_X8_hang_0 {d : Nat} {x1 x2 : Int} {h : xH} {Q : Int → xH → Prop} (hd : 1 ≤ d)
    (hR : cV wdM (d - 1) mX8_findsPairs [.inr (.inr 0)] h (fun h1 => inI x1 ∧ inI ((h1 0 15) - 1) ∧ cB wdM (d - 1) mX8_isIn [.inr (.inl x1), .inr (.inl 0), .inr (.inl ((h1 0 15) - 1))] h1 (fun h2 => inI x2 ∧ cB wdM (d - 1) mX8_isIn [.inr (.inl x2), .inr (.inl 0), .inr (.inl 1)] h2 (fun h3 => (inI x2) ∧ (¬ x2 = 0 → (0 ≤ x1 ∧ x1 < 10) ∧ (inI (h3 13 x1)) ∧ (0 ≤ (h3 13 x1) → (0 ≤ x1 ∧ x1 < 10) ∧ (0 ≤ (h3 13 x1) ∧ (h3 13 x1) < 10) ∧ Q (h3 11 (h3 13 x1)) h3) ∧ ((h3 13 x1) < 0 → Q (-5) h3)) ∧ (x2 = 0 → (0 ≤ x1 ∧ x1 < 10) ∧ Q (h3 10 x1) h3)) (fun h3 => Q (-1) h3)) (fun h2 => Q (-1) h2))) :
    gI wdM d mX8_hang 0 [some (.inr (.inr 0)), some (.inl x1), some (.inl x2)] h Q := by
  unfold gI
  refine x_aload_n (pc := 0) (show decode mX8_hang.2.1 0 = .ok (.aload_n 0, 1) by decide +kernel) rfl rfl ?_
  refine x_callV (pc := 1) (As := []) (rest := []) (lk8_217 rfl) im_X8_findsPairs sl_X8_findsPairs rfl rfl rfl (Nat.le_of_ble_eq_true rfl) (Nat.le_of_ble_eq_true rfl) (show decode mX8_hang.2.1 1 = .ok (.invokevirtual 217, 3) by decide +kernel) hd hR (fun r9 h1 hq => ?_)
  obtain ⟨rfl, hR⟩ := hq
  show xG _ _ _ 4 _ [] _ _
  refine x_iload_n (pc := 4) (show decode mX8_hang.2.1 4 = .ok (.iload_n 1, 1) by decide +kernel) rfl rfl ?_
  obtain ⟨hg, hR⟩ := hR
  refine x_i2l (pc := 5) (show decode mX8_hang.2.1 5 = .ok (.i2l, 1) by decide +kernel) hg ?_
  refine x_lconst (pc := 6) (v := 0) (show decode mX8_hang.2.1 6 = .ok (.lconst 0, 1) by decide +kernel) rfl ?_
  refine x_aload_n (pc := 7) (show decode mX8_hang.2.1 7 = .ok (.aload_n 0, 1) by decide +kernel) rfl rfl ?_
  refine x_getI (pc := 8) (ki := 15) f8_198 rfl rfl (by decide) rfl (show decode mX8_hang.2.1 8 = .ok (.getfield 198, 3) by decide +kernel) ?_
  refine x_iconst (pc := 11) (n := 1) (show decode mX8_hang.2.1 11 = .ok (.iconst 1, 1) by decide +kernel) ?_
  refine x_isub (pc := 12) (show decode mX8_hang.2.1 12 = .ok (.isub, 1) by decide +kernel) ?_
  obtain ⟨hg, hR⟩ := hR
  refine x_i2l (pc := 13) (show decode mX8_hang.2.1 13 = .ok (.i2l, 1) by decide +kernel) hg ?_
  refine x_callS (pc := 14) (As := [.inr (.inl x1), .inr (.inl 0), .inr (.inl ((h1 0 15) - 1))]) (rest := []) (lk8_79 rfl) sm_X8_isIn (Nat.le_of_ble_eq_true rfl) (Nat.le_of_ble_eq_true rfl) (show decode mX8_hang.2.1 14 = .ok (.invokestatic 79, 3) by decide +kernel) hd hR (fun r9 h2 hq => ?_)
  obtain ⟨r8, rfl, hq⟩ := hq
  rcases hq with ⟨rfl, hR⟩ | ⟨rfl, hR⟩
  · show xG _ _ _ 17 _ [.inl 1] _ _
    refine x_if_eq (pc := 17) (tgt := 30) (show decode mX8_hang.2.1 17 = .ok (.ifCond .eq 13, 3) by decide +kernel) (by decide) (by unfold inI; decide) (fun hc => absurd hc (by decide)) (fun _ => ?_)
    refine x_iload_n (pc := 20) (show decode mX8_hang.2.1 20 = .ok (.iload_n 2, 1) by decide +kernel) rfl rfl ?_
    obtain ⟨hg, hR⟩ := hR
    refine x_i2l (pc := 21) (show decode mX8_hang.2.1 21 = .ok (.i2l, 1) by decide +kernel) hg ?_
    refine x_lconst (pc := 22) (v := 0) (show decode mX8_hang.2.1 22 = .ok (.lconst 0, 1) by decide +kernel) rfl ?_
    refine x_lconst (pc := 23) (v := 1) (show decode mX8_hang.2.1 23 = .ok (.lconst 1, 1) by decide +kernel) rfl ?_
    refine x_callS (pc := 24) (As := [.inr (.inl x2), .inr (.inl 0), .inr (.inl 1)]) (rest := []) (lk8_79 rfl) sm_X8_isIn (Nat.le_of_ble_eq_true rfl) (Nat.le_of_ble_eq_true rfl) (show decode mX8_hang.2.1 24 = .ok (.invokestatic 79, 3) by decide +kernel) hd hR (fun r9 h3 hq => ?_)
    obtain ⟨r8, rfl, hq⟩ := hq
    rcases hq with ⟨rfl, hR⟩ | ⟨rfl, hR⟩
    · show xG _ _ _ 27 _ [.inl 1] _ _
      refine x_if_ne (pc := 27) (tgt := 32) (show decode mX8_hang.2.1 27 = .ok (.ifCond .ne 5, 3) by decide +kernel) (by decide) (by unfold inI; decide) (fun _ => ?_) (fun hc => absurd hc (by decide))
      refine x_iload_n (pc := 32) (show decode mX8_hang.2.1 32 = .ok (.iload_n 2, 1) by decide +kernel) rfl rfl ?_
      obtain ⟨hg, hR⟩ := hR
      refine x_if_ne (pc := 33) (tgt := 45) (show decode mX8_hang.2.1 33 = .ok (.ifCond .ne 12, 3) by decide +kernel) (by decide) hg (fun hc => ?_) (fun hc => ?_)
      · replace hR := hR.1 hc
        refine x_aload_n (pc := 45) (show decode mX8_hang.2.1 45 = .ok (.aload_n 0, 1) by decide +kernel) rfl rfl ?_
        refine x_getR (pc := 46) f8_50 rfl rfl (show decode mX8_hang.2.1 46 = .ok (.getfield 50, 3) by decide +kernel) ?_
        refine x_iload_n (pc := 49) (show decode mX8_hang.2.1 49 = .ok (.iload_n 1, 1) by decide +kernel) rfl rfl ?_
        obtain ⟨hg, hR⟩ := hR
        refine x_iald (pc := 50) rfl (by decide) hg (show decode mX8_hang.2.1 50 = .ok (.iaload, 1) by decide +kernel) ?_
        obtain ⟨hg, hR⟩ := hR
        refine x_if_ge (pc := 51) (tgt := 59) (show decode mX8_hang.2.1 51 = .ok (.ifCond .ge 8, 3) by decide +kernel) (by decide) hg (fun hc => ?_) (fun hc => ?_)
        · replace hR := hR.1 hc
          refine x_aload_n (pc := 59) (show decode mX8_hang.2.1 59 = .ok (.aload_n 0, 1) by decide +kernel) rfl rfl ?_
          refine x_getR (pc := 60) f8_44 rfl rfl (show decode mX8_hang.2.1 60 = .ok (.getfield 44, 3) by decide +kernel) ?_
          refine x_aload_n (pc := 63) (show decode mX8_hang.2.1 63 = .ok (.aload_n 0, 1) by decide +kernel) rfl rfl ?_
          refine x_getR (pc := 64) f8_50 rfl rfl (show decode mX8_hang.2.1 64 = .ok (.getfield 50, 3) by decide +kernel) ?_
          refine x_iload_n (pc := 67) (show decode mX8_hang.2.1 67 = .ok (.iload_n 1, 1) by decide +kernel) rfl rfl ?_
          obtain ⟨hg, hR⟩ := hR
          refine x_iald (pc := 68) rfl (by decide) hg (show decode mX8_hang.2.1 68 = .ok (.iaload, 1) by decide +kernel) ?_
          obtain ⟨hg, hR⟩ := hR
          refine x_iald (pc := 69) rfl (by decide) hg (show decode mX8_hang.2.1 69 = .ok (.iaload, 1) by decide +kernel) ?_
          exact x_iret (pc := 70) rfl (show decode mX8_hang.2.1 70 = .ok (.ireturn, 1) by decide +kernel) ⟨_, rfl, hR⟩
        · replace hR := hR.2 hc
          refine x_bipush (pc := 54) (n := (-5)) (show decode mX8_hang.2.1 54 = .ok (.bipush (-5), 2) by decide +kernel) rfl ?_
          refine x_goto (pc := 56) (tgt := 70) (show decode mX8_hang.2.1 56 = .ok (.goto 14, 3) by decide +kernel) (by decide) ?_
          exact x_iret (pc := 70) rfl (show decode mX8_hang.2.1 70 = .ok (.ireturn, 1) by decide +kernel) ⟨_, rfl, hR⟩
      · replace hR := hR.2 hc
        refine x_aload_n (pc := 36) (show decode mX8_hang.2.1 36 = .ok (.aload_n 0, 1) by decide +kernel) rfl rfl ?_
        refine x_getR (pc := 37) f8_41 rfl rfl (show decode mX8_hang.2.1 37 = .ok (.getfield 41, 3) by decide +kernel) ?_
        refine x_iload_n (pc := 40) (show decode mX8_hang.2.1 40 = .ok (.iload_n 1, 1) by decide +kernel) rfl rfl ?_
        obtain ⟨hg, hR⟩ := hR
        refine x_iald (pc := 41) rfl (by decide) hg (show decode mX8_hang.2.1 41 = .ok (.iaload, 1) by decide +kernel) ?_
        refine x_goto (pc := 42) (tgt := 70) (show decode mX8_hang.2.1 42 = .ok (.goto 28, 3) by decide +kernel) (by decide) ?_
        exact x_iret (pc := 70) rfl (show decode mX8_hang.2.1 70 = .ok (.ireturn, 1) by decide +kernel) ⟨_, rfl, hR⟩
    · show xG _ _ _ 27 _ [.inl 0] _ _
      refine x_if_ne (pc := 27) (tgt := 32) (show decode mX8_hang.2.1 27 = .ok (.ifCond .ne 5, 3) by decide +kernel) (by decide) (by unfold inI; decide) (fun hc => absurd hc (by decide)) (fun _ => ?_)
      refine x_iconst (pc := 30) (n := (-1)) (show decode mX8_hang.2.1 30 = .ok (.iconst (-1), 1) by decide +kernel) ?_
      exact x_iret (pc := 31) rfl (show decode mX8_hang.2.1 31 = .ok (.ireturn, 1) by decide +kernel) ⟨_, rfl, hR⟩
  · show xG _ _ _ 17 _ [.inl 0] _ _
    refine x_if_eq (pc := 17) (tgt := 30) (show decode mX8_hang.2.1 17 = .ok (.ifCond .eq 13, 3) by decide +kernel) (by decide) (by unfold inI; decide) (fun _ => ?_) (fun hc => absurd hc (by decide))
    refine x_iconst (pc := 30) (n := (-1)) (show decode mX8_hang.2.1 30 = .ok (.iconst (-1), 1) by decide +kernel) ?_
    exact x_iret (pc := 31) rfl (show decode mX8_hang.2.1 31 = .ok (.ireturn, 1) by decide +kernel) ⟨_, rfl, hR⟩
set_option maxRecDepth 4000 in
theorem sg_X8_draft_0 {d : Nat} {x1 : Int} {h : xH} {Q : Int → xH → Prop} (hd : 1 ≤ d)
    (hR : inI x1 ∧ cB wdM (d - 1) mX8_isIn [.inr (.inl x1), .inr (.inl 0), .inr (.inl 99)] h (fun h1 => gI wdM d mX8_draft 27 [some (.inr (.inr 0)), some (.inl x1), some (.inl 0), none] (xu h1 0 23 (h1 1 0)) Q) (fun h1 => Q (-2) h1)) :
    gI wdM d mX8_draft 0 [some (.inr (.inr 0)), some (.inl x1), none, none] h Q := by
  unfold gI
  refine x_iload_n (pc := 0) (show decode mX8_draft.2.1 0 = .ok (.iload_n 1, 1) by decide +kernel) rfl rfl ?_
  obtain ⟨hg, hR⟩ := hR
  refine x_i2l (pc := 1) (show decode mX8_draft.2.1 1 = .ok (.i2l, 1) by decide +kernel) hg ?_
  refine x_lconst (pc := 2) (v := 0) (show decode mX8_draft.2.1 2 = .ok (.lconst 0, 1) by decide +kernel) rfl ?_
  refine x_ldc2 (pc := 3) (n := 99) (tblG_m5 101 rfl rfl) rfl (show decode mX8_draft.2.1 3 = .ok (.ldc2_w 87, 3) by decide +kernel) ?_
  refine x_callS (pc := 6) (As := [.inr (.inl x1), .inr (.inl 0), .inr (.inl 99)]) (rest := []) (lk8_79 rfl) sm_X8_isIn (Nat.le_of_ble_eq_true rfl) (Nat.le_of_ble_eq_true rfl) (show decode mX8_draft.2.1 6 = .ok (.invokestatic 79, 3) by decide +kernel) hd hR (fun r9 h1 hq => ?_)
  obtain ⟨r8, rfl, hq⟩ := hq
  rcases hq with ⟨rfl, hR⟩ | ⟨rfl, hR⟩
  · show xG _ _ _ 9 _ [.inl 1] _ _
    refine x_if_ne (pc := 9) (tgt := 15) (show decode mX8_draft.2.1 9 = .ok (.ifCond .ne 6, 3) by decide +kernel) (by decide) (by unfold inI; decide) (fun _ => ?_) (fun hc => absurd hc (by decide))
    refine x_aload_n (pc := 15) (show decode mX8_draft.2.1 15 = .ok (.aload_n 0, 1) by decide +kernel) rfl rfl ?_
    refine x_aload_n (pc := 16) (show decode mX8_draft.2.1 16 = .ok (.aload_n 0, 1) by decide +kernel) rfl rfl ?_
    refine x_getR (pc := 17) f8_11 rfl rfl (show decode mX8_draft.2.1 17 = .ok (.getfield 11, 3) by decide +kernel) ?_
    refine x_iconst (pc := 20) (n := 0) (show decode mX8_draft.2.1 20 = .ok (.iconst 0, 1) by decide +kernel) ?_
    refine x_iald (pc := 21) rfl (by decide) (by decide) (show decode mX8_draft.2.1 21 = .ok (.iaload, 1) by decide +kernel) ?_
    refine x_putI (pc := 22) (ki := 23) f8_220 fp8_23 rfl rfl rfl (show decode mX8_draft.2.1 22 = .ok (.putfield 220, 3) by decide +kernel) ?_
    refine x_iconst (pc := 25) (n := 0) (show decode mX8_draft.2.1 25 = .ok (.iconst 0, 1) by decide +kernel) ?_
    refine x_istore_n (pc := 26) (ls' := [some (.inr (.inr 0)), some (.inl x1), some (.inl 0), none]) (show decode mX8_draft.2.1 26 = .ok (.istore_n 2, 1) by decide +kernel) rfl (by decide) rfl ?_
    exact hR
  · show xG _ _ _ 9 _ [.inl 0] _ _
    refine x_if_ne (pc := 9) (tgt := 15) (show decode mX8_draft.2.1 9 = .ok (.ifCond .ne 6, 3) by decide +kernel) (by decide) (by unfold inI; decide) (fun hc => absurd hc (by decide)) (fun _ => ?_)
    refine x_bipush (pc := 12) (n := (-2)) (show decode mX8_draft.2.1 12 = .ok (.bipush (-2), 2) by decide +kernel) rfl ?_
    exact x_iret (pc := 14) rfl (show decode mX8_draft.2.1 14 = .ok (.ireturn, 1) by decide +kernel) ⟨_, rfl, hR⟩
set_option maxRecDepth 4000 in
theorem sg_X8_draft_27 {d : Nat} {x1 x2 : Int} {h : xH} {Q : Int → xH → Prop}
    (hR : (inI x2 ∧ inI (h 1 0)) ∧ ((h 1 0) ≤ x2 → Q (h 0 23) h) ∧ (x2 < (h 1 0) → (0 ≤ x2 ∧ x2 < 12) ∧ gI wdM d mX8_draft 47 [some (.inr (.inr 0)), some (.inl x1), some (.inl x2), some (.inl 0)] (xu h 15 x2 124) Q)) :
    gI wdM d mX8_draft 27 [some (.inr (.inr 0)), some (.inl x1), some (.inl x2), none] h Q := by
  unfold gI
  refine x_iload_n (pc := 27) (show decode mX8_draft.2.1 27 = .ok (.iload_n 2, 1) by decide +kernel) rfl rfl ?_
  refine x_aload_n (pc := 28) (show decode mX8_draft.2.1 28 = .ok (.aload_n 0, 1) by decide +kernel) rfl rfl ?_
  refine x_getR (pc := 29) f8_11 rfl rfl (show decode mX8_draft.2.1 29 = .ok (.getfield 11, 3) by decide +kernel) ?_
  refine x_iconst (pc := 32) (n := 0) (show decode mX8_draft.2.1 32 = .ok (.iconst 0, 1) by decide +kernel) ?_
  refine x_iald (pc := 33) rfl (by decide) (by decide) (show decode mX8_draft.2.1 33 = .ok (.iaload, 1) by decide +kernel) ?_
  obtain ⟨hg, hR⟩ := hR
  refine x_icmp_ge (pc := 34) (tgt := 133) (show decode mX8_draft.2.1 34 = .ok (.if_icmp .ge 99, 3) by decide +kernel) (by decide) ⟨hg.1, hg.2⟩ (fun hc => ?_) (fun hc => ?_)
  · replace hR := hR.1 hc
    refine x_aload_n (pc := 133) (show decode mX8_draft.2.1 133 = .ok (.aload_n 0, 1) by decide +kernel) rfl rfl ?_
    refine x_getI (pc := 134) (ki := 23) f8_220 rfl rfl (by decide) rfl (show decode mX8_draft.2.1 134 = .ok (.getfield 220, 3) by decide +kernel) ?_
    exact x_iret (pc := 137) rfl (show decode mX8_draft.2.1 137 = .ok (.ireturn, 1) by decide +kernel) ⟨_, rfl, hR⟩
  · replace hR := hR.2 hc
    refine x_aload_n (pc := 37) (show decode mX8_draft.2.1 37 = .ok (.aload_n 0, 1) by decide +kernel) rfl rfl ?_
    refine x_getR (pc := 38) f8_56 rfl rfl (show decode mX8_draft.2.1 38 = .ok (.getfield 56, 3) by decide +kernel) ?_
    refine x_iload_n (pc := 41) (show decode mX8_draft.2.1 41 = .ok (.iload_n 2, 1) by decide +kernel) rfl rfl ?_
    refine x_bipush (pc := 42) (n := 124) (show decode mX8_draft.2.1 42 = .ok (.bipush 124, 2) by decide +kernel) rfl ?_
    obtain ⟨hg, hR⟩ := hR
    refine x_iast (pc := 44) rfl (by decide) hg (show decode mX8_draft.2.1 44 = .ok (.iastore, 1) by decide +kernel) ?_
    refine x_iconst (pc := 45) (n := 0) (show decode mX8_draft.2.1 45 = .ok (.iconst 0, 1) by decide +kernel) ?_
    refine x_istore_n (pc := 46) (ls' := [some (.inr (.inr 0)), some (.inl x1), some (.inl x2), some (.inl 0)]) (show decode mX8_draft.2.1 46 = .ok (.istore_n 3, 1) by decide +kernel) rfl (by decide) rfl ?_
    exact hR
set_option maxRecDepth 4000 in
theorem sg_X8_draft_47 {d : Nat} {x1 x2 x3 : Int} {h : xH} {Q : Int → xH → Prop} (hd : 1 ≤ d)
    (hR : (inI x3 ∧ inI (h 1 1)) ∧ ((h 1 1) ≤ x3 → cB wdM (d - 1) mX8_isFilled [.inr (.inr 0), .inl x2, .inl x1] h (fun h1 => gI wdM d mX8_draft 27 [some (.inr (.inr 0)), some (.inl x1), some (.inl (x2 + 1)), none] h1 Q) (fun h1 => (0 ≤ x2 ∧ x2 < 12) ∧ gI wdM d mX8_draft 27 [some (.inr (.inr 0)), some (.inl x1), some (.inl (x2 + 1)), none] (xu h1 15 x2 46) Q)) ∧ (x3 < (h 1 1) → (0 ≤ (5 + x3) ∧ (5 + x3) < 1705) ∧ (inI (h 1 (5 + x3)) ∧ inI x1) ∧ (¬ (h 1 (5 + x3)) = x1 → gI wdM d mX8_draft 47 [some (.inr (.inr 0)), some (.inl x1), some (.inl x2), some (.inl (x3 + 1))] h Q) ∧ ((h 1 (5 + x3)) = x1 → cB wdM (d - 1) mX8_shares [.inr (.inr 0), .inl x3, .inl x2] h (fun h2 => (0 ≤ (35 + x3) ∧ (35 + x3) < 1705) ∧ (inI (h2 1 (35 + x3)) ∧ inI x2) ∧ (¬ (h2 1 (35 + x3)) = x2 → (0 ≤ x2 ∧ x2 < 12) ∧ gI wdM d mX8_draft 47 [some (.inr (.inr 0)), some (.inl x1), some (.inl x2), some (.inl (x3 + 1))] (xu h2 15 x2 41) Q) ∧ ((h2 1 (35 + x3)) = x2 → (0 ≤ x2 ∧ x2 < 12) ∧ gI wdM d mX8_draft 47 [some (.inr (.inr 0)), some (.inl x1), some (.inl x2), some (.inl (x3 + 1))] (xu h2 15 x2 40) Q)) (fun h2 => gI wdM d mX8_draft 47 [some (.inr (.inr 0)), some (.inl x1), some (.inl x2), some (.inl (x3 + 1))] h2 Q)))) :
    gI wdM d mX8_draft 47 [some (.inr (.inr 0)), some (.inl x1), some (.inl x2), some (.inl x3)] h Q := by
  unfold gI
  refine x_iload_n (pc := 47) (show decode mX8_draft.2.1 47 = .ok (.iload_n 3, 1) by decide +kernel) rfl rfl ?_
  refine x_aload_n (pc := 48) (show decode mX8_draft.2.1 48 = .ok (.aload_n 0, 1) by decide +kernel) rfl rfl ?_
  refine x_getR (pc := 49) f8_11 rfl rfl (show decode mX8_draft.2.1 49 = .ok (.getfield 11, 3) by decide +kernel) ?_
  refine x_iconst (pc := 52) (n := 1) (show decode mX8_draft.2.1 52 = .ok (.iconst 1, 1) by decide +kernel) ?_
  refine x_iald (pc := 53) rfl (by decide) (by decide) (show decode mX8_draft.2.1 53 = .ok (.iaload, 1) by decide +kernel) ?_
  obtain ⟨hg, hR⟩ := hR
  refine x_icmp_ge (pc := 54) (tgt := 110) (show decode mX8_draft.2.1 54 = .ok (.if_icmp .ge 56, 3) by decide +kernel) (by decide) ⟨hg.1, hg.2⟩ (fun hc => ?_) (fun hc => ?_)
  · replace hR := hR.1 hc
    refine x_aload_n (pc := 110) (show decode mX8_draft.2.1 110 = .ok (.aload_n 0, 1) by decide +kernel) rfl rfl ?_
    refine x_iload_n (pc := 111) (show decode mX8_draft.2.1 111 = .ok (.iload_n 2, 1) by decide +kernel) rfl rfl ?_
    refine x_iload_n (pc := 112) (show decode mX8_draft.2.1 112 = .ok (.iload_n 1, 1) by decide +kernel) rfl rfl ?_
    refine x_callV (pc := 113) (As := [.inl x2, .inl x1]) (rest := []) (lk8_106 rfl) im_X8_isFilled sl_X8_isFilled rfl rfl rfl (Nat.le_of_ble_eq_true rfl) (Nat.le_of_ble_eq_true rfl) (show decode mX8_draft.2.1 113 = .ok (.invokevirtual 106, 3) by decide +kernel) hd hR (fun r9 h1 hq => ?_)
    obtain ⟨r8, rfl, hq⟩ := hq
    rcases hq with ⟨rfl, hR⟩ | ⟨rfl, hR⟩
    · show xG _ _ _ 116 _ [.inl 1] _ _
      refine x_if_ne (pc := 116) (tgt := 127) (show decode mX8_draft.2.1 116 = .ok (.ifCond .ne 11, 3) by decide +kernel) (by decide) (by unfold inI; decide) (fun _ => ?_) (fun hc => absurd hc (by decide))
      refine x_iinc (pc := 127) (ls' := [some (.inr (.inr 0)), some (.inl x1), some (.inl (x2 + 1)), some (.inl x3)]) (show decode mX8_draft.2.1 127 = .ok (.iinc 2 1, 3) by decide +kernel) (by decide) rfl rfl ?_
      refine x_goto (pc := 130) (tgt := 27) (show decode mX8_draft.2.1 130 = .ok (.goto (-103), 3) by decide +kernel) (by decide) ?_
      exact x_weak (xle_get (by repeat' constructor)) hR
    · show xG _ _ _ 116 _ [.inl 0] _ _
      refine x_if_ne (pc := 116) (tgt := 127) (show decode mX8_draft.2.1 116 = .ok (.ifCond .ne 11, 3) by decide +kernel) (by decide) (by unfold inI; decide) (fun hc => absurd hc (by decide)) (fun _ => ?_)
      refine x_aload_n (pc := 119) (show decode mX8_draft.2.1 119 = .ok (.aload_n 0, 1) by decide +kernel) rfl rfl ?_
      refine x_getR (pc := 120) f8_56 rfl rfl (show decode mX8_draft.2.1 120 = .ok (.getfield 56, 3) by decide +kernel) ?_
      refine x_iload_n (pc := 123) (show decode mX8_draft.2.1 123 = .ok (.iload_n 2, 1) by decide +kernel) rfl rfl ?_
      refine x_bipush (pc := 124) (n := 46) (show decode mX8_draft.2.1 124 = .ok (.bipush 46, 2) by decide +kernel) rfl ?_
      obtain ⟨hg, hR⟩ := hR
      refine x_iast (pc := 126) rfl (by decide) hg (show decode mX8_draft.2.1 126 = .ok (.iastore, 1) by decide +kernel) ?_
      refine x_iinc (pc := 127) (ls' := [some (.inr (.inr 0)), some (.inl x1), some (.inl (x2 + 1)), some (.inl x3)]) (show decode mX8_draft.2.1 127 = .ok (.iinc 2 1, 3) by decide +kernel) (by decide) rfl rfl ?_
      refine x_goto (pc := 130) (tgt := 27) (show decode mX8_draft.2.1 130 = .ok (.goto (-103), 3) by decide +kernel) (by decide) ?_
      exact x_weak (xle_get (by repeat' constructor)) hR
  · replace hR := hR.2 hc
    refine x_aload_n (pc := 57) (show decode mX8_draft.2.1 57 = .ok (.aload_n 0, 1) by decide +kernel) rfl rfl ?_
    refine x_getR (pc := 58) f8_11 rfl rfl (show decode mX8_draft.2.1 58 = .ok (.getfield 11, 3) by decide +kernel) ?_
    refine x_iconst (pc := 61) (n := 5) (show decode mX8_draft.2.1 61 = .ok (.iconst 5, 1) by decide +kernel) ?_
    refine x_iload_n (pc := 62) (show decode mX8_draft.2.1 62 = .ok (.iload_n 3, 1) by decide +kernel) rfl rfl ?_
    refine x_iadd (pc := 63) (show decode mX8_draft.2.1 63 = .ok (.iadd, 1) by decide +kernel) ?_
    obtain ⟨hg, hR⟩ := hR
    refine x_iald (pc := 64) rfl (by decide) hg (show decode mX8_draft.2.1 64 = .ok (.iaload, 1) by decide +kernel) ?_
    refine x_iload_n (pc := 65) (show decode mX8_draft.2.1 65 = .ok (.iload_n 1, 1) by decide +kernel) rfl rfl ?_
    obtain ⟨hg, hR⟩ := hR
    refine x_icmp_ne (pc := 66) (tgt := 104) (show decode mX8_draft.2.1 66 = .ok (.if_icmp .ne 38, 3) by decide +kernel) (by decide) ⟨hg.1, hg.2⟩ (fun hc => ?_) (fun hc => ?_)
    · replace hR := hR.1 hc
      refine x_iinc (pc := 104) (ls' := [some (.inr (.inr 0)), some (.inl x1), some (.inl x2), some (.inl (x3 + 1))]) (show decode mX8_draft.2.1 104 = .ok (.iinc 3 1, 3) by decide +kernel) (by decide) rfl rfl ?_
      refine x_goto (pc := 107) (tgt := 47) (show decode mX8_draft.2.1 107 = .ok (.goto (-60), 3) by decide +kernel) (by decide) ?_
      exact hR
    · replace hR := hR.2 hc
      refine x_aload_n (pc := 69) (show decode mX8_draft.2.1 69 = .ok (.aload_n 0, 1) by decide +kernel) rfl rfl ?_
      refine x_iload_n (pc := 70) (show decode mX8_draft.2.1 70 = .ok (.iload_n 3, 1) by decide +kernel) rfl rfl ?_
      refine x_iload_n (pc := 71) (show decode mX8_draft.2.1 71 = .ok (.iload_n 2, 1) by decide +kernel) rfl rfl ?_
      refine x_callV (pc := 72) (As := [.inl x3, .inl x2]) (rest := []) (lk8_91 rfl) im_X8_shares sl_X8_shares rfl rfl rfl (Nat.le_of_ble_eq_true rfl) (Nat.le_of_ble_eq_true rfl) (show decode mX8_draft.2.1 72 = .ok (.invokevirtual 91, 3) by decide +kernel) hd hR (fun r9 h2 hq => ?_)
      obtain ⟨r8, rfl, hq⟩ := hq
      rcases hq with ⟨rfl, hR⟩ | ⟨rfl, hR⟩
      · show xG _ _ _ 75 _ [.inl 1] _ _
        refine x_if_eq (pc := 75) (tgt := 104) (show decode mX8_draft.2.1 75 = .ok (.ifCond .eq 29, 3) by decide +kernel) (by decide) (by unfold inI; decide) (fun hc => absurd hc (by decide)) (fun _ => ?_)
        refine x_aload_n (pc := 78) (show decode mX8_draft.2.1 78 = .ok (.aload_n 0, 1) by decide +kernel) rfl rfl ?_
        refine x_getR (pc := 79) f8_56 rfl rfl (show decode mX8_draft.2.1 79 = .ok (.getfield 56, 3) by decide +kernel) ?_
        refine x_iload_n (pc := 82) (show decode mX8_draft.2.1 82 = .ok (.iload_n 2, 1) by decide +kernel) rfl rfl ?_
        refine x_aload_n (pc := 83) (show decode mX8_draft.2.1 83 = .ok (.aload_n 0, 1) by decide +kernel) rfl rfl ?_
        refine x_getR (pc := 84) f8_11 rfl rfl (show decode mX8_draft.2.1 84 = .ok (.getfield 11, 3) by decide +kernel) ?_
        refine x_bipush (pc := 87) (n := 35) (show decode mX8_draft.2.1 87 = .ok (.bipush 35, 2) by decide +kernel) rfl ?_
        refine x_iload_n (pc := 89) (show decode mX8_draft.2.1 89 = .ok (.iload_n 3, 1) by decide +kernel) rfl rfl ?_
        refine x_iadd (pc := 90) (show decode mX8_draft.2.1 90 = .ok (.iadd, 1) by decide +kernel) ?_
        obtain ⟨hg, hR⟩ := hR
        refine x_iald (pc := 91) rfl (by decide) hg (show decode mX8_draft.2.1 91 = .ok (.iaload, 1) by decide +kernel) ?_
        refine x_iload_n (pc := 92) (show decode mX8_draft.2.1 92 = .ok (.iload_n 2, 1) by decide +kernel) rfl rfl ?_
        obtain ⟨hg, hR⟩ := hR
        refine x_icmp_ne (pc := 93) (tgt := 101) (show decode mX8_draft.2.1 93 = .ok (.if_icmp .ne 8, 3) by decide +kernel) (by decide) ⟨hg.1, hg.2⟩ (fun hc => ?_) (fun hc => ?_)
        · replace hR := hR.1 hc
          refine x_bipush (pc := 101) (n := 41) (show decode mX8_draft.2.1 101 = .ok (.bipush 41, 2) by decide +kernel) rfl ?_
          obtain ⟨hg, hR⟩ := hR
          refine x_iast (pc := 103) rfl (by decide) hg (show decode mX8_draft.2.1 103 = .ok (.iastore, 1) by decide +kernel) ?_
          refine x_iinc (pc := 104) (ls' := [some (.inr (.inr 0)), some (.inl x1), some (.inl x2), some (.inl (x3 + 1))]) (show decode mX8_draft.2.1 104 = .ok (.iinc 3 1, 3) by decide +kernel) (by decide) rfl rfl ?_
          refine x_goto (pc := 107) (tgt := 47) (show decode mX8_draft.2.1 107 = .ok (.goto (-60), 3) by decide +kernel) (by decide) ?_
          exact hR
        · replace hR := hR.2 hc
          refine x_bipush (pc := 96) (n := 40) (show decode mX8_draft.2.1 96 = .ok (.bipush 40, 2) by decide +kernel) rfl ?_
          refine x_goto (pc := 98) (tgt := 103) (show decode mX8_draft.2.1 98 = .ok (.goto 5, 3) by decide +kernel) (by decide) ?_
          obtain ⟨hg, hR⟩ := hR
          refine x_iast (pc := 103) rfl (by decide) hg (show decode mX8_draft.2.1 103 = .ok (.iastore, 1) by decide +kernel) ?_
          refine x_iinc (pc := 104) (ls' := [some (.inr (.inr 0)), some (.inl x1), some (.inl x2), some (.inl (x3 + 1))]) (show decode mX8_draft.2.1 104 = .ok (.iinc 3 1, 3) by decide +kernel) (by decide) rfl rfl ?_
          refine x_goto (pc := 107) (tgt := 47) (show decode mX8_draft.2.1 107 = .ok (.goto (-60), 3) by decide +kernel) (by decide) ?_
          exact hR
      · show xG _ _ _ 75 _ [.inl 0] _ _
        refine x_if_eq (pc := 75) (tgt := 104) (show decode mX8_draft.2.1 75 = .ok (.ifCond .eq 29, 3) by decide +kernel) (by decide) (by unfold inI; decide) (fun _ => ?_) (fun hc => absurd hc (by decide))
        refine x_iinc (pc := 104) (ls' := [some (.inr (.inr 0)), some (.inl x1), some (.inl x2), some (.inl (x3 + 1))]) (show decode mX8_draft.2.1 104 = .ok (.iinc 3 1, 3) by decide +kernel) (by decide) rfl rfl ?_
        refine x_goto (pc := 107) (tgt := 47) (show decode mX8_draft.2.1 107 = .ok (.goto (-60), 3) by decide +kernel) (by decide) ?_
        exact hR
set_option maxRecDepth 4000 in
theorem sg_X8_paper_0 {d : Nat} {x1 : Int} {h : xH} {Q : Int → xH → Prop} (hd : 1 ≤ d)
    (hR : inI x1 ∧ inI ((h 0 23) - 1) ∧ cB wdM (d - 1) mX8_isIn [.inr (.inl x1), .inr (.inl 0), .inr (.inl ((h 0 23) - 1))] h (fun h1 => (0 ≤ x1 ∧ x1 < 12) ∧ Q (h1 15 x1) h1) (fun h1 => Q (-1) h1)) :
    gI wdM d mX8_paper 0 [some (.inr (.inr 0)), some (.inl x1)] h Q := by
  unfold gI
  refine x_iload_n (pc := 0) (show decode mX8_paper.2.1 0 = .ok (.iload_n 1, 1) by decide +kernel) rfl rfl ?_
  obtain ⟨hg, hR⟩ := hR
  refine x_i2l (pc := 1) (show decode mX8_paper.2.1 1 = .ok (.i2l, 1) by decide +kernel) hg ?_
  refine x_lconst (pc := 2) (v := 0) (show decode mX8_paper.2.1 2 = .ok (.lconst 0, 1) by decide +kernel) rfl ?_
  refine x_aload_n (pc := 3) (show decode mX8_paper.2.1 3 = .ok (.aload_n 0, 1) by decide +kernel) rfl rfl ?_
  refine x_getI (pc := 4) (ki := 23) f8_220 rfl rfl (by decide) rfl (show decode mX8_paper.2.1 4 = .ok (.getfield 220, 3) by decide +kernel) ?_
  refine x_iconst (pc := 7) (n := 1) (show decode mX8_paper.2.1 7 = .ok (.iconst 1, 1) by decide +kernel) ?_
  refine x_isub (pc := 8) (show decode mX8_paper.2.1 8 = .ok (.isub, 1) by decide +kernel) ?_
  obtain ⟨hg, hR⟩ := hR
  refine x_i2l (pc := 9) (show decode mX8_paper.2.1 9 = .ok (.i2l, 1) by decide +kernel) hg ?_
  refine x_callS (pc := 10) (As := [.inr (.inl x1), .inr (.inl 0), .inr (.inl ((h 0 23) - 1))]) (rest := []) (lk8_79 rfl) sm_X8_isIn (Nat.le_of_ble_eq_true rfl) (Nat.le_of_ble_eq_true rfl) (show decode mX8_paper.2.1 10 = .ok (.invokestatic 79, 3) by decide +kernel) hd hR (fun r9 h1 hq => ?_)
  obtain ⟨r8, rfl, hq⟩ := hq
  rcases hq with ⟨rfl, hR⟩ | ⟨rfl, hR⟩
  · show xG _ _ _ 13 _ [.inl 1] _ _
    refine x_if_eq (pc := 13) (tgt := 25) (show decode mX8_paper.2.1 13 = .ok (.ifCond .eq 12, 3) by decide +kernel) (by decide) (by unfold inI; decide) (fun hc => absurd hc (by decide)) (fun _ => ?_)
    refine x_aload_n (pc := 16) (show decode mX8_paper.2.1 16 = .ok (.aload_n 0, 1) by decide +kernel) rfl rfl ?_
    refine x_getR (pc := 17) f8_56 rfl rfl (show decode mX8_paper.2.1 17 = .ok (.getfield 56, 3) by decide +kernel) ?_
    refine x_iload_n (pc := 20) (show decode mX8_paper.2.1 20 = .ok (.iload_n 1, 1) by decide +kernel) rfl rfl ?_
    obtain ⟨hg, hR⟩ := hR
    refine x_iald (pc := 21) rfl (by decide) hg (show decode mX8_paper.2.1 21 = .ok (.iaload, 1) by decide +kernel) ?_
    refine x_goto (pc := 22) (tgt := 26) (show decode mX8_paper.2.1 22 = .ok (.goto 4, 3) by decide +kernel) (by decide) ?_
    exact x_iret (pc := 26) rfl (show decode mX8_paper.2.1 26 = .ok (.ireturn, 1) by decide +kernel) ⟨_, rfl, hR⟩
  · show xG _ _ _ 13 _ [.inl 0] _ _
    refine x_if_eq (pc := 13) (tgt := 25) (show decode mX8_paper.2.1 13 = .ok (.ifCond .eq 12, 3) by decide +kernel) (by decide) (by unfold inI; decide) (fun _ => ?_) (fun hc => absurd hc (by decide))
    refine x_iconst (pc := 25) (n := (-1)) (show decode mX8_paper.2.1 25 = .ok (.iconst (-1), 1) by decide +kernel) ?_
    exact x_iret (pc := 26) rfl (show decode mX8_paper.2.1 26 = .ok (.ireturn, 1) by decide +kernel) ⟨_, rfl, hR⟩
set_option maxRecDepth 4000 in
theorem sg_X8_isList_0 {d : Nat} {x0 : Int} {h : xH} {Q : Int → xH → Prop} (hd : 1 ≤ d)
    (hR : inI x0 ∧ cI wdM (d - 1) mX8_isIn [.inr (.inl x0), .inr (.inl 0), .inr (.inl 3)] h (fun r2 h1 => (r2 = 0 ∨ r2 = 1) ∧ Q r2 h1)) :
    gI wdM d mX8_isList 0 [some (.inl x0)] h Q := by
  unfold gI
  refine x_iload_n (pc := 0) (show decode mX8_isList.2.1 0 = .ok (.iload_n 0, 1) by decide +kernel) rfl rfl ?_
  obtain ⟨hg, hR⟩ := hR
  refine x_i2l (pc := 1) (show decode mX8_isList.2.1 1 = .ok (.i2l, 1) by decide +kernel) hg ?_
  refine x_lconst (pc := 2) (v := 0) (show decode mX8_isList.2.1 2 = .ok (.lconst 0, 1) by decide +kernel) rfl ?_
  refine x_ldc2 (pc := 3) (n := 3) (tblG_m6 99 rfl rfl) rfl (show decode mX8_isList.2.1 3 = .ok (.ldc2_w 223, 3) by decide +kernel) ?_
  refine x_callS (pc := 6) (As := [.inr (.inl x0), .inr (.inl 0), .inr (.inl 3)]) (rest := []) (lk8_79 rfl) sm_X8_isIn (Nat.le_of_ble_eq_true rfl) (Nat.le_of_ble_eq_true rfl) (show decode mX8_isList.2.1 6 = .ok (.invokestatic 79, 3) by decide +kernel) hd hR (fun r9 h1 hq => ?_)
  obtain ⟨r2, rfl, hR⟩ := hq
  show xG _ _ _ 9 _ [.inl r2] _ _
  exact x_zret (pc := 9) rfl (show decode mX8_isList.2.1 9 = .ok (.ireturn, 1) by decide +kernel) hR.1 ⟨_, rfl, hR.2⟩
set_option maxRecDepth 4000 in
theorem sg_X8_lay_0 {d : Nat} {x1 x2 : Int} {h : xH} {Q : Int → xH → Prop} (hd : 1 ≤ d)
    (hR : cB wdM (d - 1) mX8_isList [.inl x1] h (fun h1 => (0 ≤ x1 ∧ x1 < 4) ∧ (inI (h1 17 x1)) ∧ (0 ≤ (h1 17 x1) → (inI x2) ∧ (0 ≤ x2 → gI wdM d mX8_lay 40 [some (.inr (.inr 0)), some (.inl x1), some (.inl x2), some (.inl (2 * (h1 1 0))), some (.inl 0)] h1 Q) ∧ (x2 < 0 → Q (-13) h1)) ∧ ((h1 17 x1) < 0 → Q (-11) h1)) (fun h1 => Q (-1) h1)) :
    gI wdM d mX8_lay 0 [some (.inr (.inr 0)), some (.inl x1), some (.inl x2), none, none] h Q := by
  unfold gI
  refine x_iload_n (pc := 0) (show decode mX8_lay.2.1 0 = .ok (.iload_n 1, 1) by decide +kernel) rfl rfl ?_
  refine x_callS (pc := 1) (As := [.inl x1]) (rest := []) (lk8_225 rfl) sm_X8_isList (Nat.le_of_ble_eq_true rfl) (Nat.le_of_ble_eq_true rfl) (show decode mX8_lay.2.1 1 = .ok (.invokestatic 225, 3) by decide +kernel) hd hR (fun r9 h1 hq => ?_)
  obtain ⟨r8, rfl, hq⟩ := hq
  rcases hq with ⟨rfl, hR⟩ | ⟨rfl, hR⟩
  · show xG _ _ _ 4 _ [.inl 1] _ _
    refine x_if_ne (pc := 4) (tgt := 9) (show decode mX8_lay.2.1 4 = .ok (.ifCond .ne 5, 3) by decide +kernel) (by decide) (by unfold inI; decide) (fun _ => ?_) (fun hc => absurd hc (by decide))
    refine x_aload_n (pc := 9) (show decode mX8_lay.2.1 9 = .ok (.aload_n 0, 1) by decide +kernel) rfl rfl ?_
    refine x_getR (pc := 10) f8_62 rfl rfl (show decode mX8_lay.2.1 10 = .ok (.getfield 62, 3) by decide +kernel) ?_
    refine x_iload_n (pc := 13) (show decode mX8_lay.2.1 13 = .ok (.iload_n 1, 1) by decide +kernel) rfl rfl ?_
    obtain ⟨hg, hR⟩ := hR
    refine x_iald (pc := 14) rfl (by decide) hg (show decode mX8_lay.2.1 14 = .ok (.iaload, 1) by decide +kernel) ?_
    obtain ⟨hg, hR⟩ := hR
    refine x_if_ge (pc := 15) (tgt := 21) (show decode mX8_lay.2.1 15 = .ok (.ifCond .ge 6, 3) by decide +kernel) (by decide) hg (fun hc => ?_) (fun hc => ?_)
    · replace hR := hR.1 hc
      refine x_iload_n (pc := 21) (show decode mX8_lay.2.1 21 = .ok (.iload_n 2, 1) by decide +kernel) rfl rfl ?_
      obtain ⟨hg, hR⟩ := hR
      refine x_if_ge (pc := 22) (tgt := 28) (show decode mX8_lay.2.1 22 = .ok (.ifCond .ge 6, 3) by decide +kernel) (by decide) hg (fun hc => ?_) (fun hc => ?_)
      · replace hR := hR.1 hc
        refine x_iconst (pc := 28) (n := 2) (show decode mX8_lay.2.1 28 = .ok (.iconst 2, 1) by decide +kernel) ?_
        refine x_aload_n (pc := 29) (show decode mX8_lay.2.1 29 = .ok (.aload_n 0, 1) by decide +kernel) rfl rfl ?_
        refine x_getR (pc := 30) f8_11 rfl rfl (show decode mX8_lay.2.1 30 = .ok (.getfield 11, 3) by decide +kernel) ?_
        refine x_iconst (pc := 33) (n := 0) (show decode mX8_lay.2.1 33 = .ok (.iconst 0, 1) by decide +kernel) ?_
        refine x_iald (pc := 34) rfl (by decide) (by decide) (show decode mX8_lay.2.1 34 = .ok (.iaload, 1) by decide +kernel) ?_
        refine x_imul (pc := 35) (show decode mX8_lay.2.1 35 = .ok (.imul, 1) by decide +kernel) ?_
        refine x_istore_n (pc := 36) (ls' := [some (.inr (.inr 0)), some (.inl x1), some (.inl x2), some (.inl (2 * (h1 1 0))), none]) (show decode mX8_lay.2.1 36 = .ok (.istore_n 3, 1) by decide +kernel) rfl (by decide) rfl ?_
        refine x_iconst (pc := 37) (n := 0) (show decode mX8_lay.2.1 37 = .ok (.iconst 0, 1) by decide +kernel) ?_
        refine x_istore (pc := 38) (ls' := [some (.inr (.inr 0)), some (.inl x1), some (.inl x2), some (.inl (2 * (h1 1 0))), some (.inl 0)]) (show decode mX8_lay.2.1 38 = .ok (.istore 4, 2) by decide +kernel) (by decide) rfl ?_
        exact hR
      · replace hR := hR.2 hc
        refine x_bipush (pc := 25) (n := (-13)) (show decode mX8_lay.2.1 25 = .ok (.bipush (-13), 2) by decide +kernel) rfl ?_
        exact x_iret (pc := 27) rfl (show decode mX8_lay.2.1 27 = .ok (.ireturn, 1) by decide +kernel) ⟨_, rfl, hR⟩
    · replace hR := hR.2 hc
      refine x_bipush (pc := 18) (n := (-11)) (show decode mX8_lay.2.1 18 = .ok (.bipush (-11), 2) by decide +kernel) rfl ?_
      exact x_iret (pc := 20) rfl (show decode mX8_lay.2.1 20 = .ok (.ireturn, 1) by decide +kernel) ⟨_, rfl, hR⟩
  · show xG _ _ _ 4 _ [.inl 0] _ _
    refine x_if_ne (pc := 4) (tgt := 9) (show decode mX8_lay.2.1 4 = .ok (.ifCond .ne 5, 3) by decide +kernel) (by decide) (by unfold inI; decide) (fun hc => absurd hc (by decide)) (fun _ => ?_)
    refine x_iconst (pc := 7) (n := (-1)) (show decode mX8_lay.2.1 7 = .ok (.iconst (-1), 1) by decide +kernel) ?_
    exact x_iret (pc := 8) rfl (show decode mX8_lay.2.1 8 = .ok (.ireturn, 1) by decide +kernel) ⟨_, rfl, hR⟩
set_option maxRecDepth 4000 in
theorem sg_X8_lay_40 {d : Nat} {x1 x2 x3 x4 : Int} {h : xH} {Q : Int → xH → Prop}
    (hR : (inI x4 ∧ inI x3) ∧ (x3 ≤ x4 → (0 ≤ x1 ∧ x1 < 4) ∧ (inI x2 ∧ inI ((h 17 x1) - x3)) ∧ (x2 ≤ ((h 17 x1) - x3) → Q x3 h) ∧ (((h 17 x1) - x3) < x2 → Q (-13) h)) ∧ (x4 < x3 → (0 ≤ x1 ∧ x1 < 4) ∧ (inI x4 ∧ inI ((h 17 x1) - x2)) ∧ (((h 17 x1) - x2) ≤ x4 → (0 ≤ x1 ∧ x1 < 4) ∧ (inI x2 ∧ inI ((h 17 x1) - x3)) ∧ (x2 ≤ ((h 17 x1) - x3) → Q x3 h) ∧ (((h 17 x1) - x3) < x2 → Q (-13) h)) ∧ (x4 < ((h 17 x1) - x2) → (0 ≤ (157 + x4) ∧ (157 + x4) < 1705) ∧ inI (h 1 (157 + x4)) ∧ (0 ≤ (((30 * x1) + x2) + x4) ∧ (((30 * x1) + x2) + x4) < 120) ∧ gI wdM d mX8_lay 40 [some (.inr (.inr 0)), some (.inl x1), some (.inl x2), some (.inl x3), some (.inl (x4 + 1))] (xu h 19 (((30 * x1) + x2) + x4) (h 1 (157 + x4))) Q))) :
    gI wdM d mX8_lay 40 [some (.inr (.inr 0)), some (.inl x1), some (.inl x2), some (.inl x3), some (.inl x4)] h Q := by
  unfold gI
  refine x_iload (pc := 40) (show decode mX8_lay.2.1 40 = .ok (.iload 4, 2) by decide +kernel) rfl ?_
  refine x_iload_n (pc := 42) (show decode mX8_lay.2.1 42 = .ok (.iload_n 3, 1) by decide +kernel) rfl rfl ?_
  obtain ⟨hg, hR⟩ := hR
  refine x_icmp_ge (pc := 43) (tgt := 91) (show decode mX8_lay.2.1 43 = .ok (.if_icmp .ge 48, 3) by decide +kernel) (by decide) ⟨hg.1, hg.2⟩ (fun hc => ?_) (fun hc => ?_)
  · replace hR := hR.1 hc
    refine x_iload_n (pc := 91) (show decode mX8_lay.2.1 91 = .ok (.iload_n 2, 1) by decide +kernel) rfl rfl ?_
    refine x_aload_n (pc := 92) (show decode mX8_lay.2.1 92 = .ok (.aload_n 0, 1) by decide +kernel) rfl rfl ?_
    refine x_getR (pc := 93) f8_62 rfl rfl (show decode mX8_lay.2.1 93 = .ok (.getfield 62, 3) by decide +kernel) ?_
    refine x_iload_n (pc := 96) (show decode mX8_lay.2.1 96 = .ok (.iload_n 1, 1) by decide +kernel) rfl rfl ?_
    obtain ⟨hg, hR⟩ := hR
    refine x_iald (pc := 97) rfl (by decide) hg (show decode mX8_lay.2.1 97 = .ok (.iaload, 1) by decide +kernel) ?_
    refine x_iload_n (pc := 98) (show decode mX8_lay.2.1 98 = .ok (.iload_n 3, 1) by decide +kernel) rfl rfl ?_
    refine x_isub (pc := 99) (show decode mX8_lay.2.1 99 = .ok (.isub, 1) by decide +kernel) ?_
    obtain ⟨hg, hR⟩ := hR
    refine x_icmp_le (pc := 100) (tgt := 108) (show decode mX8_lay.2.1 100 = .ok (.if_icmp .le 8, 3) by decide +kernel) (by decide) ⟨hg.1, hg.2⟩ (fun hc => ?_) (fun hc => ?_)
    · replace hR := hR.1 hc
      refine x_iload_n (pc := 108) (show decode mX8_lay.2.1 108 = .ok (.iload_n 3, 1) by decide +kernel) rfl rfl ?_
      exact x_iret (pc := 109) rfl (show decode mX8_lay.2.1 109 = .ok (.ireturn, 1) by decide +kernel) ⟨_, rfl, hR⟩
    · replace hR := hR.2 hc
      refine x_bipush (pc := 103) (n := (-13)) (show decode mX8_lay.2.1 103 = .ok (.bipush (-13), 2) by decide +kernel) rfl ?_
      refine x_goto (pc := 105) (tgt := 109) (show decode mX8_lay.2.1 105 = .ok (.goto 4, 3) by decide +kernel) (by decide) ?_
      exact x_iret (pc := 109) rfl (show decode mX8_lay.2.1 109 = .ok (.ireturn, 1) by decide +kernel) ⟨_, rfl, hR⟩
  · replace hR := hR.2 hc
    refine x_iload (pc := 46) (show decode mX8_lay.2.1 46 = .ok (.iload 4, 2) by decide +kernel) rfl ?_
    refine x_aload_n (pc := 48) (show decode mX8_lay.2.1 48 = .ok (.aload_n 0, 1) by decide +kernel) rfl rfl ?_
    refine x_getR (pc := 49) f8_62 rfl rfl (show decode mX8_lay.2.1 49 = .ok (.getfield 62, 3) by decide +kernel) ?_
    refine x_iload_n (pc := 52) (show decode mX8_lay.2.1 52 = .ok (.iload_n 1, 1) by decide +kernel) rfl rfl ?_
    obtain ⟨hg, hR⟩ := hR
    refine x_iald (pc := 53) rfl (by decide) hg (show decode mX8_lay.2.1 53 = .ok (.iaload, 1) by decide +kernel) ?_
    refine x_iload_n (pc := 54) (show decode mX8_lay.2.1 54 = .ok (.iload_n 2, 1) by decide +kernel) rfl rfl ?_
    refine x_isub (pc := 55) (show decode mX8_lay.2.1 55 = .ok (.isub, 1) by decide +kernel) ?_
    obtain ⟨hg, hR⟩ := hR
    refine x_icmp_ge (pc := 56) (tgt := 91) (show decode mX8_lay.2.1 56 = .ok (.if_icmp .ge 35, 3) by decide +kernel) (by decide) ⟨hg.1, hg.2⟩ (fun hc => ?_) (fun hc => ?_)
    · replace hR := hR.1 hc
      refine x_iload_n (pc := 91) (show decode mX8_lay.2.1 91 = .ok (.iload_n 2, 1) by decide +kernel) rfl rfl ?_
      refine x_aload_n (pc := 92) (show decode mX8_lay.2.1 92 = .ok (.aload_n 0, 1) by decide +kernel) rfl rfl ?_
      refine x_getR (pc := 93) f8_62 rfl rfl (show decode mX8_lay.2.1 93 = .ok (.getfield 62, 3) by decide +kernel) ?_
      refine x_iload_n (pc := 96) (show decode mX8_lay.2.1 96 = .ok (.iload_n 1, 1) by decide +kernel) rfl rfl ?_
      obtain ⟨hg, hR⟩ := hR
      refine x_iald (pc := 97) rfl (by decide) hg (show decode mX8_lay.2.1 97 = .ok (.iaload, 1) by decide +kernel) ?_
      refine x_iload_n (pc := 98) (show decode mX8_lay.2.1 98 = .ok (.iload_n 3, 1) by decide +kernel) rfl rfl ?_
      refine x_isub (pc := 99) (show decode mX8_lay.2.1 99 = .ok (.isub, 1) by decide +kernel) ?_
      obtain ⟨hg, hR⟩ := hR
      refine x_icmp_le (pc := 100) (tgt := 108) (show decode mX8_lay.2.1 100 = .ok (.if_icmp .le 8, 3) by decide +kernel) (by decide) ⟨hg.1, hg.2⟩ (fun hc => ?_) (fun hc => ?_)
      · replace hR := hR.1 hc
        refine x_iload_n (pc := 108) (show decode mX8_lay.2.1 108 = .ok (.iload_n 3, 1) by decide +kernel) rfl rfl ?_
        exact x_iret (pc := 109) rfl (show decode mX8_lay.2.1 109 = .ok (.ireturn, 1) by decide +kernel) ⟨_, rfl, hR⟩
      · replace hR := hR.2 hc
        refine x_bipush (pc := 103) (n := (-13)) (show decode mX8_lay.2.1 103 = .ok (.bipush (-13), 2) by decide +kernel) rfl ?_
        refine x_goto (pc := 105) (tgt := 109) (show decode mX8_lay.2.1 105 = .ok (.goto 4, 3) by decide +kernel) (by decide) ?_
        exact x_iret (pc := 109) rfl (show decode mX8_lay.2.1 109 = .ok (.ireturn, 1) by decide +kernel) ⟨_, rfl, hR⟩
    · replace hR := hR.2 hc
      refine x_aload_n (pc := 59) (show decode mX8_lay.2.1 59 = .ok (.aload_n 0, 1) by decide +kernel) rfl rfl ?_
      refine x_getR (pc := 60) f8_68 rfl rfl (show decode mX8_lay.2.1 60 = .ok (.getfield 68, 3) by decide +kernel) ?_
      refine x_bipush (pc := 63) (n := 30) (show decode mX8_lay.2.1 63 = .ok (.bipush 30, 2) by decide +kernel) rfl ?_
      refine x_iload_n (pc := 65) (show decode mX8_lay.2.1 65 = .ok (.iload_n 1, 1) by decide +kernel) rfl rfl ?_
      refine x_imul (pc := 66) (show decode mX8_lay.2.1 66 = .ok (.imul, 1) by decide +kernel) ?_
      refine x_iload_n (pc := 67) (show decode mX8_lay.2.1 67 = .ok (.iload_n 2, 1) by decide +kernel) rfl rfl ?_
      refine x_iadd (pc := 68) (show decode mX8_lay.2.1 68 = .ok (.iadd, 1) by decide +kernel) ?_
      refine x_iload (pc := 69) (show decode mX8_lay.2.1 69 = .ok (.iload 4, 2) by decide +kernel) rfl ?_
      refine x_iadd (pc := 71) (show decode mX8_lay.2.1 71 = .ok (.iadd, 1) by decide +kernel) ?_
      refine x_aload_n (pc := 72) (show decode mX8_lay.2.1 72 = .ok (.aload_n 0, 1) by decide +kernel) rfl rfl ?_
      refine x_getR (pc := 73) f8_11 rfl rfl (show decode mX8_lay.2.1 73 = .ok (.getfield 11, 3) by decide +kernel) ?_
      refine x_sipush (pc := 76) (n := 157) (show decode mX8_lay.2.1 76 = .ok (.sipush 157, 3) by decide +kernel) rfl ?_
      refine x_iload (pc := 79) (show decode mX8_lay.2.1 79 = .ok (.iload 4, 2) by decide +kernel) rfl ?_
      refine x_iadd (pc := 81) (show decode mX8_lay.2.1 81 = .ok (.iadd, 1) by decide +kernel) ?_
      obtain ⟨hg, hR⟩ := hR
      refine x_iald (pc := 82) rfl (by decide) hg (show decode mX8_lay.2.1 82 = .ok (.iaload, 1) by decide +kernel) ?_
      obtain ⟨hg, hR⟩ := hR
      refine x_i2l (pc := 83) (show decode mX8_lay.2.1 83 = .ok (.i2l, 1) by decide +kernel) hg ?_
      obtain ⟨hg, hR⟩ := hR
      refine x_last (pc := 84) rfl (by decide) hg (show decode mX8_lay.2.1 84 = .ok (.lastore, 1) by decide +kernel) ?_
      refine x_iinc (pc := 85) (ls' := [some (.inr (.inr 0)), some (.inl x1), some (.inl x2), some (.inl x3), some (.inl (x4 + 1))]) (show decode mX8_lay.2.1 85 = .ok (.iinc 4 1, 3) by decide +kernel) (by decide) rfl rfl ?_
      refine x_goto (pc := 88) (tgt := 40) (show decode mX8_lay.2.1 88 = .ok (.goto (-48), 3) by decide +kernel) (by decide) ?_
      exact hR
set_option maxRecDepth 4000 in
theorem sg_X8_seen_0 {d : Nat} {x1 x2 x3 : Int} {h : xH} {Q : Int → xH → Prop} (hd : 1 ≤ d)
    (hR : cB wdM (d - 1) mX8_isPin [.inr (.inr 0), .inl x1] h (fun h1 => cB wdM (d - 1) mX8_isList [.inl x2] h1 (fun h2 => (0 ≤ x2 ∧ x2 < 4) ∧ (inI (h2 17 x2)) ∧ (0 ≤ (h2 17 x2) → (inI x3) ∧ (x3 < 0 → Q (-13) h2) ∧ (0 ≤ x3 → (0 ≤ x2 ∧ x2 < 4) ∧ (inI x3 ∧ inI ((h2 17 x2) - (2 * (h2 1 0)))) ∧ (x3 ≤ ((h2 17 x2) - (2 * (h2 1 0))) → cV wdM (d - 1) mX8_findsAll [.inr (.inr 0)] h2 (fun h3 => cB wdM (d - 1) mX8_isReady [.inr (.inr 0), .inl x1] h3 (fun h4 => gI wdM d mX8_seen 80 [some (.inr (.inr 0)), some (.inl x1), some (.inl x2), some (.inl x3), some (.inl (2 * (h2 1 0))), some (.inl 0), some (.inl 0), none, none] h4 Q) (fun h4 => Q (-3) h4))) ∧ (((h2 17 x2) - (2 * (h2 1 0))) < x3 → Q (-13) h2))) ∧ ((h2 17 x2) < 0 → Q (-11) h2)) (fun h2 => Q (-1) h2)) (fun h1 => Q (-1) h1)) :
    gI wdM d mX8_seen 0 [some (.inr (.inr 0)), some (.inl x1), some (.inl x2), some (.inl x3), none, none, none, none, none] h Q := by
  unfold gI
  refine x_aload_n (pc := 0) (show decode mX8_seen.2.1 0 = .ok (.aload_n 0, 1) by decide +kernel) rfl rfl ?_
  refine x_iload_n (pc := 1) (show decode mX8_seen.2.1 1 = .ok (.iload_n 1, 1) by decide +kernel) rfl rfl ?_
  refine x_callV (pc := 2) (As := [.inl x1]) (rest := []) (lk8_95 rfl) im_X8_isPin sl_X8_isPin rfl rfl rfl (Nat.le_of_ble_eq_true rfl) (Nat.le_of_ble_eq_true rfl) (show decode mX8_seen.2.1 2 = .ok (.invokevirtual 95, 3) by decide +kernel) hd hR (fun r9 h1 hq => ?_)
  obtain ⟨r8, rfl, hq⟩ := hq
  rcases hq with ⟨rfl, hR⟩ | ⟨rfl, hR⟩
  · show xG _ _ _ 5 _ [.inl 1] _ _
    refine x_if_eq (pc := 5) (tgt := 15) (show decode mX8_seen.2.1 5 = .ok (.ifCond .eq 10, 3) by decide +kernel) (by decide) (by unfold inI; decide) (fun hc => absurd hc (by decide)) (fun _ => ?_)
    refine x_iload_n (pc := 8) (show decode mX8_seen.2.1 8 = .ok (.iload_n 2, 1) by decide +kernel) rfl rfl ?_
    refine x_callS (pc := 9) (As := [.inl x2]) (rest := []) (lk8_225 rfl) sm_X8_isList (Nat.le_of_ble_eq_true rfl) (Nat.le_of_ble_eq_true rfl) (show decode mX8_seen.2.1 9 = .ok (.invokestatic 225, 3) by decide +kernel) hd hR (fun r9 h2 hq => ?_)
    obtain ⟨r8, rfl, hq⟩ := hq
    rcases hq with ⟨rfl, hR⟩ | ⟨rfl, hR⟩
    · show xG _ _ _ 12 _ [.inl 1] _ _
      refine x_if_ne (pc := 12) (tgt := 17) (show decode mX8_seen.2.1 12 = .ok (.ifCond .ne 5, 3) by decide +kernel) (by decide) (by unfold inI; decide) (fun _ => ?_) (fun hc => absurd hc (by decide))
      refine x_aload_n (pc := 17) (show decode mX8_seen.2.1 17 = .ok (.aload_n 0, 1) by decide +kernel) rfl rfl ?_
      refine x_getR (pc := 18) f8_62 rfl rfl (show decode mX8_seen.2.1 18 = .ok (.getfield 62, 3) by decide +kernel) ?_
      refine x_iload_n (pc := 21) (show decode mX8_seen.2.1 21 = .ok (.iload_n 2, 1) by decide +kernel) rfl rfl ?_
      obtain ⟨hg, hR⟩ := hR
      refine x_iald (pc := 22) rfl (by decide) hg (show decode mX8_seen.2.1 22 = .ok (.iaload, 1) by decide +kernel) ?_
      obtain ⟨hg, hR⟩ := hR
      refine x_if_ge (pc := 23) (tgt := 29) (show decode mX8_seen.2.1 23 = .ok (.ifCond .ge 6, 3) by decide +kernel) (by decide) hg (fun hc => ?_) (fun hc => ?_)
      · replace hR := hR.1 hc
        refine x_iconst (pc := 29) (n := 2) (show decode mX8_seen.2.1 29 = .ok (.iconst 2, 1) by decide +kernel) ?_
        refine x_aload_n (pc := 30) (show decode mX8_seen.2.1 30 = .ok (.aload_n 0, 1) by decide +kernel) rfl rfl ?_
        refine x_getR (pc := 31) f8_11 rfl rfl (show decode mX8_seen.2.1 31 = .ok (.getfield 11, 3) by decide +kernel) ?_
        refine x_iconst (pc := 34) (n := 0) (show decode mX8_seen.2.1 34 = .ok (.iconst 0, 1) by decide +kernel) ?_
        refine x_iald (pc := 35) rfl (by decide) (by decide) (show decode mX8_seen.2.1 35 = .ok (.iaload, 1) by decide +kernel) ?_
        refine x_imul (pc := 36) (show decode mX8_seen.2.1 36 = .ok (.imul, 1) by decide +kernel) ?_
        refine x_istore (pc := 37) (ls' := [some (.inr (.inr 0)), some (.inl x1), some (.inl x2), some (.inl x3), some (.inl (2 * (h2 1 0))), none, none, none, none]) (show decode mX8_seen.2.1 37 = .ok (.istore 4, 2) by decide +kernel) (by decide) rfl ?_
        refine x_iload_n (pc := 39) (show decode mX8_seen.2.1 39 = .ok (.iload_n 3, 1) by decide +kernel) rfl rfl ?_
        obtain ⟨hg, hR⟩ := hR
        refine x_if_lt (pc := 40) (tgt := 56) (show decode mX8_seen.2.1 40 = .ok (.ifCond .lt 16, 3) by decide +kernel) (by decide) hg (fun hc => ?_) (fun hc => ?_)
        · replace hR := hR.1 hc
          refine x_bipush (pc := 56) (n := (-13)) (show decode mX8_seen.2.1 56 = .ok (.bipush (-13), 2) by decide +kernel) rfl ?_
          exact x_iret (pc := 58) rfl (show decode mX8_seen.2.1 58 = .ok (.ireturn, 1) by decide +kernel) ⟨_, rfl, hR⟩
        · replace hR := hR.2 hc
          refine x_iload_n (pc := 43) (show decode mX8_seen.2.1 43 = .ok (.iload_n 3, 1) by decide +kernel) rfl rfl ?_
          refine x_aload_n (pc := 44) (show decode mX8_seen.2.1 44 = .ok (.aload_n 0, 1) by decide +kernel) rfl rfl ?_
          refine x_getR (pc := 45) f8_62 rfl rfl (show decode mX8_seen.2.1 45 = .ok (.getfield 62, 3) by decide +kernel) ?_
          refine x_iload_n (pc := 48) (show decode mX8_seen.2.1 48 = .ok (.iload_n 2, 1) by decide +kernel) rfl rfl ?_
          obtain ⟨hg, hR⟩ := hR
          refine x_iald (pc := 49) rfl (by decide) hg (show decode mX8_seen.2.1 49 = .ok (.iaload, 1) by decide +kernel) ?_
          refine x_iload (pc := 50) (show decode mX8_seen.2.1 50 = .ok (.iload 4, 2) by decide +kernel) rfl ?_
          refine x_isub (pc := 52) (show decode mX8_seen.2.1 52 = .ok (.isub, 1) by decide +kernel) ?_
          obtain ⟨hg, hR⟩ := hR
          refine x_icmp_le (pc := 53) (tgt := 59) (show decode mX8_seen.2.1 53 = .ok (.if_icmp .le 6, 3) by decide +kernel) (by decide) ⟨hg.1, hg.2⟩ (fun hc => ?_) (fun hc => ?_)
          · replace hR := hR.1 hc
            refine x_aload_n (pc := 59) (show decode mX8_seen.2.1 59 = .ok (.aload_n 0, 1) by decide +kernel) rfl rfl ?_
            refine x_callV (pc := 60) (As := []) (rest := []) (lk8_136 rfl) im_X8_findsAll sl_X8_findsAll rfl rfl rfl (Nat.le_of_ble_eq_true rfl) (Nat.le_of_ble_eq_true rfl) (show decode mX8_seen.2.1 60 = .ok (.invokevirtual 136, 3) by decide +kernel) hd hR (fun r9 h3 hq => ?_)
            obtain ⟨rfl, hR⟩ := hq
            show xG _ _ _ 63 _ [] _ _
            refine x_aload_n (pc := 63) (show decode mX8_seen.2.1 63 = .ok (.aload_n 0, 1) by decide +kernel) rfl rfl ?_
            refine x_iload_n (pc := 64) (show decode mX8_seen.2.1 64 = .ok (.iload_n 1, 1) by decide +kernel) rfl rfl ?_
            refine x_callV (pc := 65) (As := [.inl x1]) (rest := []) (lk8_141 rfl) im_X8_isReady sl_X8_isReady rfl rfl rfl (Nat.le_of_ble_eq_true rfl) (Nat.le_of_ble_eq_true rfl) (show decode mX8_seen.2.1 65 = .ok (.invokevirtual 141, 3) by decide +kernel) hd hR (fun r9 h4 hq => ?_)
            obtain ⟨r8, rfl, hq⟩ := hq
            rcases hq with ⟨rfl, hR⟩ | ⟨rfl, hR⟩
            · show xG _ _ _ 68 _ [.inl 1] _ _
              refine x_if_ne (pc := 68) (tgt := 74) (show decode mX8_seen.2.1 68 = .ok (.ifCond .ne 6, 3) by decide +kernel) (by decide) (by unfold inI; decide) (fun _ => ?_) (fun hc => absurd hc (by decide))
              refine x_iconst (pc := 74) (n := 0) (show decode mX8_seen.2.1 74 = .ok (.iconst 0, 1) by decide +kernel) ?_
              refine x_istore (pc := 75) (ls' := [some (.inr (.inr 0)), some (.inl x1), some (.inl x2), some (.inl x3), some (.inl (2 * (h2 1 0))), some (.inl 0), none, none, none]) (show decode mX8_seen.2.1 75 = .ok (.istore 5, 2) by decide +kernel) (by decide) rfl ?_
              refine x_iconst (pc := 77) (n := 0) (show decode mX8_seen.2.1 77 = .ok (.iconst 0, 1) by decide +kernel) ?_
              refine x_istore (pc := 78) (ls' := [some (.inr (.inr 0)), some (.inl x1), some (.inl x2), some (.inl x3), some (.inl (2 * (h2 1 0))), some (.inl 0), some (.inl 0), none, none]) (show decode mX8_seen.2.1 78 = .ok (.istore 6, 2) by decide +kernel) (by decide) rfl ?_
              exact hR
            · show xG _ _ _ 68 _ [.inl 0] _ _
              refine x_if_ne (pc := 68) (tgt := 74) (show decode mX8_seen.2.1 68 = .ok (.ifCond .ne 6, 3) by decide +kernel) (by decide) (by unfold inI; decide) (fun hc => absurd hc (by decide)) (fun _ => ?_)
              refine x_bipush (pc := 71) (n := (-3)) (show decode mX8_seen.2.1 71 = .ok (.bipush (-3), 2) by decide +kernel) rfl ?_
              exact x_iret (pc := 73) rfl (show decode mX8_seen.2.1 73 = .ok (.ireturn, 1) by decide +kernel) ⟨_, rfl, hR⟩
          · replace hR := hR.2 hc
            refine x_bipush (pc := 56) (n := (-13)) (show decode mX8_seen.2.1 56 = .ok (.bipush (-13), 2) by decide +kernel) rfl ?_
            exact x_iret (pc := 58) rfl (show decode mX8_seen.2.1 58 = .ok (.ireturn, 1) by decide +kernel) ⟨_, rfl, hR⟩
      · replace hR := hR.2 hc
        refine x_bipush (pc := 26) (n := (-11)) (show decode mX8_seen.2.1 26 = .ok (.bipush (-11), 2) by decide +kernel) rfl ?_
        exact x_iret (pc := 28) rfl (show decode mX8_seen.2.1 28 = .ok (.ireturn, 1) by decide +kernel) ⟨_, rfl, hR⟩
    · show xG _ _ _ 12 _ [.inl 0] _ _
      refine x_if_ne (pc := 12) (tgt := 17) (show decode mX8_seen.2.1 12 = .ok (.ifCond .ne 5, 3) by decide +kernel) (by decide) (by unfold inI; decide) (fun hc => absurd hc (by decide)) (fun _ => ?_)
      refine x_iconst (pc := 15) (n := (-1)) (show decode mX8_seen.2.1 15 = .ok (.iconst (-1), 1) by decide +kernel) ?_
      exact x_iret (pc := 16) rfl (show decode mX8_seen.2.1 16 = .ok (.ireturn, 1) by decide +kernel) ⟨_, rfl, hR⟩
  · show xG _ _ _ 5 _ [.inl 0] _ _
    refine x_if_eq (pc := 5) (tgt := 15) (show decode mX8_seen.2.1 5 = .ok (.ifCond .eq 10, 3) by decide +kernel) (by decide) (by unfold inI; decide) (fun _ => ?_) (fun hc => absurd hc (by decide))
    refine x_iconst (pc := 15) (n := (-1)) (show decode mX8_seen.2.1 15 = .ok (.iconst (-1), 1) by decide +kernel) ?_
    exact x_iret (pc := 16) rfl (show decode mX8_seen.2.1 16 = .ok (.ireturn, 1) by decide +kernel) ⟨_, rfl, hR⟩
set_option maxRecDepth 4000 in
theorem sg_X8_seen_80 {d : Nat} {x1 x2 x3 x4 x5 x6 : Int} {h : xH} {Q : Int → xH → Prop}
    (hR : (inI x6 ∧ inI x4) ∧ (x4 ≤ x6 → gI wdM d mX8_seen 114 [some (.inr (.inr 0)), some (.inl x1), some (.inl x2), some (.inl x3), some (.inl x4), some (.inl x5), some (.inl 0), none, none] h Q) ∧ (x6 < x4 → (0 ≤ (157 + x6) ∧ (157 + x6) < 1705) ∧ (0 ≤ x6 ∧ x6 < 24) ∧ gI wdM d mX8_seen 80 [some (.inr (.inr 0)), some (.inl x1), some (.inl x2), some (.inl x3), some (.inl x4), some (.inl x5), some (.inl (x6 + 1)), none, none] (xu h 18 x6 (h 1 (157 + x6))) Q)) :
    gI wdM d mX8_seen 80 [some (.inr (.inr 0)), some (.inl x1), some (.inl x2), some (.inl x3), some (.inl x4), some (.inl x5), some (.inl x6), none, none] h Q := by
  unfold gI
  refine x_iload (pc := 80) (show decode mX8_seen.2.1 80 = .ok (.iload 6, 2) by decide +kernel) rfl ?_
  refine x_iload (pc := 82) (show decode mX8_seen.2.1 82 = .ok (.iload 4, 2) by decide +kernel) rfl ?_
  obtain ⟨hg, hR⟩ := hR
  refine x_icmp_ge (pc := 84) (tgt := 111) (show decode mX8_seen.2.1 84 = .ok (.if_icmp .ge 27, 3) by decide +kernel) (by decide) ⟨hg.1, hg.2⟩ (fun hc => ?_) (fun hc => ?_)
  · replace hR := hR.1 hc
    refine x_iconst (pc := 111) (n := 0) (show decode mX8_seen.2.1 111 = .ok (.iconst 0, 1) by decide +kernel) ?_
    refine x_istore (pc := 112) (ls' := [some (.inr (.inr 0)), some (.inl x1), some (.inl x2), some (.inl x3), some (.inl x4), some (.inl x5), some (.inl 0), none, none]) (show decode mX8_seen.2.1 112 = .ok (.istore 6, 2) by decide +kernel) (by decide) rfl ?_
    exact hR
  · replace hR := hR.2 hc
    refine x_aload_n (pc := 87) (show decode mX8_seen.2.1 87 = .ok (.aload_n 0, 1) by decide +kernel) rfl rfl ?_
    refine x_getR (pc := 88) f8_65 rfl rfl (show decode mX8_seen.2.1 88 = .ok (.getfield 65, 3) by decide +kernel) ?_
    refine x_iload (pc := 91) (show decode mX8_seen.2.1 91 = .ok (.iload 6, 2) by decide +kernel) rfl ?_
    refine x_aload_n (pc := 93) (show decode mX8_seen.2.1 93 = .ok (.aload_n 0, 1) by decide +kernel) rfl rfl ?_
    refine x_getR (pc := 94) f8_11 rfl rfl (show decode mX8_seen.2.1 94 = .ok (.getfield 11, 3) by decide +kernel) ?_
    refine x_sipush (pc := 97) (n := 157) (show decode mX8_seen.2.1 97 = .ok (.sipush 157, 3) by decide +kernel) rfl ?_
    refine x_iload (pc := 100) (show decode mX8_seen.2.1 100 = .ok (.iload 6, 2) by decide +kernel) rfl ?_
    refine x_iadd (pc := 102) (show decode mX8_seen.2.1 102 = .ok (.iadd, 1) by decide +kernel) ?_
    obtain ⟨hg, hR⟩ := hR
    refine x_iald (pc := 103) rfl (by decide) hg (show decode mX8_seen.2.1 103 = .ok (.iaload, 1) by decide +kernel) ?_
    obtain ⟨hg, hR⟩ := hR
    refine x_iast (pc := 104) rfl (by decide) hg (show decode mX8_seen.2.1 104 = .ok (.iastore, 1) by decide +kernel) ?_
    refine x_iinc (pc := 105) (ls' := [some (.inr (.inr 0)), some (.inl x1), some (.inl x2), some (.inl x3), some (.inl x4), some (.inl x5), some (.inl (x6 + 1)), none, none]) (show decode mX8_seen.2.1 105 = .ok (.iinc 6 1, 3) by decide +kernel) (by decide) rfl rfl ?_
    refine x_goto (pc := 108) (tgt := 80) (show decode mX8_seen.2.1 108 = .ok (.goto (-28), 3) by decide +kernel) (by decide) ?_
    exact hR
set_option maxRecDepth 4000 in
theorem sg_X8_seen_114 {d : Nat} {x1 x2 x3 x4 x5 x6 : Int} {h : xH} {Q : Int → xH → Prop} (hd : 1 ≤ d)
    (hR : (inI x6) ∧ (5 ≤ x6 → Q x5 h) ∧ (x6 < 5 → (0 ≤ (35 + x1) ∧ (35 + x1) < 1705) ∧ cV wdM (d - 1) mX8_stitches [.inr (.inr 0), .inl (h 1 (35 + x1)), .inl x6, .inl 0] h (fun h1 => gI wdM d mX8_seen 142 [some (.inr (.inr 0)), some (.inl x1), some (.inl x2), some (.inl x3), some (.inl x4), some (.inl x5), some (.inl x6), some (.inl 1), some (.inl 0)] h1 Q))) :
    gI wdM d mX8_seen 114 [some (.inr (.inr 0)), some (.inl x1), some (.inl x2), some (.inl x3), some (.inl x4), some (.inl x5), some (.inl x6), none, none] h Q := by
  unfold gI
  refine x_iload (pc := 114) (show decode mX8_seen.2.1 114 = .ok (.iload 6, 2) by decide +kernel) rfl ?_
  refine x_iconst (pc := 116) (n := 5) (show decode mX8_seen.2.1 116 = .ok (.iconst 5, 1) by decide +kernel) ?_
  obtain ⟨hg, hR⟩ := hR
  refine x_icmp_ge (pc := 117) (tgt := 253) (show decode mX8_seen.2.1 117 = .ok (.if_icmp .ge 136, 3) by decide +kernel) (by decide) ⟨hg, (by unfold inI; decide)⟩ (fun hc => ?_) (fun hc => ?_)
  · replace hR := hR.1 hc
    refine x_iload (pc := 253) (show decode mX8_seen.2.1 253 = .ok (.iload 5, 2) by decide +kernel) rfl ?_
    exact x_iret (pc := 255) rfl (show decode mX8_seen.2.1 255 = .ok (.ireturn, 1) by decide +kernel) ⟨_, rfl, hR⟩
  · replace hR := hR.2 hc
    refine x_aload_n (pc := 120) (show decode mX8_seen.2.1 120 = .ok (.aload_n 0, 1) by decide +kernel) rfl rfl ?_
    refine x_aload_n (pc := 121) (show decode mX8_seen.2.1 121 = .ok (.aload_n 0, 1) by decide +kernel) rfl rfl ?_
    refine x_getR (pc := 122) f8_11 rfl rfl (show decode mX8_seen.2.1 122 = .ok (.getfield 11, 3) by decide +kernel) ?_
    refine x_bipush (pc := 125) (n := 35) (show decode mX8_seen.2.1 125 = .ok (.bipush 35, 2) by decide +kernel) rfl ?_
    refine x_iload_n (pc := 127) (show decode mX8_seen.2.1 127 = .ok (.iload_n 1, 1) by decide +kernel) rfl rfl ?_
    refine x_iadd (pc := 128) (show decode mX8_seen.2.1 128 = .ok (.iadd, 1) by decide +kernel) ?_
    obtain ⟨hg, hR⟩ := hR
    refine x_iald (pc := 129) rfl (by decide) hg (show decode mX8_seen.2.1 129 = .ok (.iaload, 1) by decide +kernel) ?_
    refine x_iload (pc := 130) (show decode mX8_seen.2.1 130 = .ok (.iload 6, 2) by decide +kernel) rfl ?_
    refine x_iconst (pc := 132) (n := 0) (show decode mX8_seen.2.1 132 = .ok (.iconst 0, 1) by decide +kernel) ?_
    refine x_callV (pc := 133) (As := [.inl (h 1 (35 + x1)), .inl x6, .inl 0]) (rest := []) (lk8_155 rfl) im_X8_stitches sl_X8_stitches rfl rfl rfl (Nat.le_of_ble_eq_true rfl) (Nat.le_of_ble_eq_true rfl) (show decode mX8_seen.2.1 133 = .ok (.invokevirtual 155, 3) by decide +kernel) hd hR (fun r9 h1 hq => ?_)
    obtain ⟨rfl, hR⟩ := hq
    show xG _ _ _ 136 _ [] _ _
    refine x_iconst (pc := 136) (n := 1) (show decode mX8_seen.2.1 136 = .ok (.iconst 1, 1) by decide +kernel) ?_
    refine x_istore (pc := 137) (ls' := [some (.inr (.inr 0)), some (.inl x1), some (.inl x2), some (.inl x3), some (.inl x4), some (.inl x5), some (.inl x6), some (.inl 1), none]) (show decode mX8_seen.2.1 137 = .ok (.istore 7, 2) by decide +kernel) (by decide) rfl ?_
    refine x_iconst (pc := 139) (n := 0) (show decode mX8_seen.2.1 139 = .ok (.iconst 0, 1) by decide +kernel) ?_
    refine x_istore (pc := 140) (ls' := [some (.inr (.inr 0)), some (.inl x1), some (.inl x2), some (.inl x3), some (.inl x4), some (.inl x5), some (.inl x6), some (.inl 1), some (.inl 0)]) (show decode mX8_seen.2.1 140 = .ok (.istore 8, 2) by decide +kernel) (by decide) rfl ?_
    exact hR
set_option maxRecDepth 4000 in
theorem sg_X8_seen_142 {d : Nat} {x1 x2 x3 x4 x5 x6 x7 x8 : Int} {h : xH} {Q : Int → xH → Prop}
    (hR : (inI x8 ∧ inI x4) ∧ (x4 ≤ x8 → gI wdM d mX8_seen 198 [some (.inr (.inr 0)), some (.inl x1), some (.inl x2), some (.inl x3), some (.inl x4), some (.inl x5), some (.inl x6), some (.inl x7), some (.inl 0)] h Q) ∧ (x8 < x4 → (0 ≤ (((30 * x2) + x3) + x8) ∧ (((30 * x2) + x3) + x8) < 120) ∧ (0 ≤ (157 + x8) ∧ (157 + x8) < 1705) ∧ inI (h 1 (157 + x8)) ∧ (inL (h 19 (((30 * x2) + x3) + x8)) ∧ inL (h 1 (157 + x8))) ∧ (¬ (h 19 (((30 * x2) + x3) + x8)) = (h 1 (157 + x8)) → gI wdM d mX8_seen 142 [some (.inr (.inr 0)), some (.inl x1), some (.inl x2), some (.inl x3), some (.inl x4), some (.inl x5), some (.inl x6), some (.inl (xandI x7 0)), some (.inl (x8 + 1))] h Q) ∧ ((h 19 (((30 * x2) + x3) + x8)) = (h 1 (157 + x8)) → gI wdM d mX8_seen 142 [some (.inr (.inr 0)), some (.inl x1), some (.inl x2), some (.inl x3), some (.inl x4), some (.inl x5), some (.inl x6), some (.inl (xandI x7 1)), some (.inl (x8 + 1))] h Q))) :
    gI wdM d mX8_seen 142 [some (.inr (.inr 0)), some (.inl x1), some (.inl x2), some (.inl x3), some (.inl x4), some (.inl x5), some (.inl x6), some (.inl x7), some (.inl x8)] h Q := by
  unfold gI
  refine x_iload (pc := 142) (show decode mX8_seen.2.1 142 = .ok (.iload 8, 2) by decide +kernel) rfl ?_
  refine x_iload (pc := 144) (show decode mX8_seen.2.1 144 = .ok (.iload 4, 2) by decide +kernel) rfl ?_
  obtain ⟨hg, hR⟩ := hR
  refine x_icmp_ge (pc := 146) (tgt := 195) (show decode mX8_seen.2.1 146 = .ok (.if_icmp .ge 49, 3) by decide +kernel) (by decide) ⟨hg.1, hg.2⟩ (fun hc => ?_) (fun hc => ?_)
  · replace hR := hR.1 hc
    refine x_iconst (pc := 195) (n := 0) (show decode mX8_seen.2.1 195 = .ok (.iconst 0, 1) by decide +kernel) ?_
    refine x_istore (pc := 196) (ls' := [some (.inr (.inr 0)), some (.inl x1), some (.inl x2), some (.inl x3), some (.inl x4), some (.inl x5), some (.inl x6), some (.inl x7), some (.inl 0)]) (show decode mX8_seen.2.1 196 = .ok (.istore 8, 2) by decide +kernel) (by decide) rfl ?_
    exact hR
  · replace hR := hR.2 hc
    refine x_iload (pc := 149) (show decode mX8_seen.2.1 149 = .ok (.iload 7, 2) by decide +kernel) rfl ?_
    refine x_aload_n (pc := 151) (show decode mX8_seen.2.1 151 = .ok (.aload_n 0, 1) by decide +kernel) rfl rfl ?_
    refine x_getR (pc := 152) f8_68 rfl rfl (show decode mX8_seen.2.1 152 = .ok (.getfield 68, 3) by decide +kernel) ?_
    refine x_bipush (pc := 155) (n := 30) (show decode mX8_seen.2.1 155 = .ok (.bipush 30, 2) by decide +kernel) rfl ?_
    refine x_iload_n (pc := 157) (show decode mX8_seen.2.1 157 = .ok (.iload_n 2, 1) by decide +kernel) rfl rfl ?_
    refine x_imul (pc := 158) (show decode mX8_seen.2.1 158 = .ok (.imul, 1) by decide +kernel) ?_
    refine x_iload_n (pc := 159) (show decode mX8_seen.2.1 159 = .ok (.iload_n 3, 1) by decide +kernel) rfl rfl ?_
    refine x_iadd (pc := 160) (show decode mX8_seen.2.1 160 = .ok (.iadd, 1) by decide +kernel) ?_
    refine x_iload (pc := 161) (show decode mX8_seen.2.1 161 = .ok (.iload 8, 2) by decide +kernel) rfl ?_
    refine x_iadd (pc := 163) (show decode mX8_seen.2.1 163 = .ok (.iadd, 1) by decide +kernel) ?_
    obtain ⟨hg, hR⟩ := hR
    refine x_lald (pc := 164) rfl (by decide) hg (show decode mX8_seen.2.1 164 = .ok (.laload, 1) by decide +kernel) ?_
    refine x_aload_n (pc := 165) (show decode mX8_seen.2.1 165 = .ok (.aload_n 0, 1) by decide +kernel) rfl rfl ?_
    refine x_getR (pc := 166) f8_11 rfl rfl (show decode mX8_seen.2.1 166 = .ok (.getfield 11, 3) by decide +kernel) ?_
    refine x_sipush (pc := 169) (n := 157) (show decode mX8_seen.2.1 169 = .ok (.sipush 157, 3) by decide +kernel) rfl ?_
    refine x_iload (pc := 172) (show decode mX8_seen.2.1 172 = .ok (.iload 8, 2) by decide +kernel) rfl ?_
    refine x_iadd (pc := 174) (show decode mX8_seen.2.1 174 = .ok (.iadd, 1) by decide +kernel) ?_
    obtain ⟨hg, hR⟩ := hR
    refine x_iald (pc := 175) rfl (by decide) hg (show decode mX8_seen.2.1 175 = .ok (.iaload, 1) by decide +kernel) ?_
    obtain ⟨hg, hR⟩ := hR
    refine x_i2l (pc := 176) (show decode mX8_seen.2.1 176 = .ok (.i2l, 1) by decide +kernel) hg ?_
    obtain ⟨hg, hR⟩ := hR
    refine x_lcmp (pc := 177) (show decode mX8_seen.2.1 177 = .ok (.lcmp, 1) by decide +kernel) ⟨hg.1, hg.2⟩ ?_
    refine x_if_ne (pc := 178) (tgt := 185) (show decode mX8_seen.2.1 178 = .ok (.ifCond .ne 7, 3) by decide +kernel) (by decide) (xcmp_in _ _) (fun hc => ?_) (fun hc => ?_)
    · replace hR := hR.1 (fun z => hc (xcmp_eq.mpr z))
      refine x_iconst (pc := 185) (n := 0) (show decode mX8_seen.2.1 185 = .ok (.iconst 0, 1) by decide +kernel) ?_
      refine x_iand (pc := 186) (show decode mX8_seen.2.1 186 = .ok (.iand, 1) by decide +kernel) ?_
      refine x_istore (pc := 187) (ls' := [some (.inr (.inr 0)), some (.inl x1), some (.inl x2), some (.inl x3), some (.inl x4), some (.inl x5), some (.inl x6), some (.inl (xandI x7 0)), some (.inl x8)]) (show decode mX8_seen.2.1 187 = .ok (.istore 7, 2) by decide +kernel) (by decide) rfl ?_
      refine x_iinc (pc := 189) (ls' := [some (.inr (.inr 0)), some (.inl x1), some (.inl x2), some (.inl x3), some (.inl x4), some (.inl x5), some (.inl x6), some (.inl (xandI x7 0)), some (.inl (x8 + 1))]) (show decode mX8_seen.2.1 189 = .ok (.iinc 8 1, 3) by decide +kernel) (by decide) rfl rfl ?_
      refine x_goto (pc := 192) (tgt := 142) (show decode mX8_seen.2.1 192 = .ok (.goto (-50), 3) by decide +kernel) (by decide) ?_
      exact hR
    · replace hR := hR.2 (xcmp_eq.mp hc)
      refine x_iconst (pc := 181) (n := 1) (show decode mX8_seen.2.1 181 = .ok (.iconst 1, 1) by decide +kernel) ?_
      refine x_goto (pc := 182) (tgt := 186) (show decode mX8_seen.2.1 182 = .ok (.goto 4, 3) by decide +kernel) (by decide) ?_
      refine x_iand (pc := 186) (show decode mX8_seen.2.1 186 = .ok (.iand, 1) by decide +kernel) ?_
      refine x_istore (pc := 187) (ls' := [some (.inr (.inr 0)), some (.inl x1), some (.inl x2), some (.inl x3), some (.inl x4), some (.inl x5), some (.inl x6), some (.inl (xandI x7 1)), some (.inl x8)]) (show decode mX8_seen.2.1 187 = .ok (.istore 7, 2) by decide +kernel) (by decide) rfl ?_
      refine x_iinc (pc := 189) (ls' := [some (.inr (.inr 0)), some (.inl x1), some (.inl x2), some (.inl x3), some (.inl x4), some (.inl x5), some (.inl x6), some (.inl (xandI x7 1)), some (.inl (x8 + 1))]) (show decode mX8_seen.2.1 189 = .ok (.iinc 8 1, 3) by decide +kernel) (by decide) rfl rfl ?_
      refine x_goto (pc := 192) (tgt := 142) (show decode mX8_seen.2.1 192 = .ok (.goto (-50), 3) by decide +kernel) (by decide) ?_
      exact hR
set_option maxRecDepth 4000 in
theorem sg_X8_seen_198 {d : Nat} {x1 x2 x3 x4 x5 x6 x7 x8 : Int} {h : xH} {Q : Int → xH → Prop}
    (hR : (inI x8 ∧ inI x4) ∧ (x4 ≤ x8 → (inI x7) ∧ (x7 = 0 → gI wdM d mX8_seen 114 [some (.inr (.inr 0)), some (.inl x1), some (.inl x2), some (.inl x3), some (.inl x4), some (.inl (xorI x5 0)), some (.inl (x6 + 1)), none, none] h Q) ∧ (¬ x7 = 0 → (0 ≤ x6 ∧ x6 ≤ 31) ∧ gI wdM d mX8_seen 114 [some (.inr (.inr 0)), some (.inl x1), some (.inl x2), some (.inl x3), some (.inl x4), some (.inl (xorI x5 (1 * 2 ^ (Int.toNat x6)))), some (.inl (x6 + 1)), none, none] h Q)) ∧ (x8 < x4 → (0 ≤ x8 ∧ x8 < 24) ∧ (0 ≤ (157 + x8) ∧ (157 + x8) < 1705) ∧ gI wdM d mX8_seen 198 [some (.inr (.inr 0)), some (.inl x1), some (.inl x2), some (.inl x3), some (.inl x4), some (.inl x5), some (.inl x6), some (.inl x7), some (.inl (x8 + 1))] (xu h 1 (157 + x8) (h 18 x8)) Q)) :
    gI wdM d mX8_seen 198 [some (.inr (.inr 0)), some (.inl x1), some (.inl x2), some (.inl x3), some (.inl x4), some (.inl x5), some (.inl x6), some (.inl x7), some (.inl x8)] h Q := by
  unfold gI
  refine x_iload (pc := 198) (show decode mX8_seen.2.1 198 = .ok (.iload 8, 2) by decide +kernel) rfl ?_
  refine x_iload (pc := 200) (show decode mX8_seen.2.1 200 = .ok (.iload 4, 2) by decide +kernel) rfl ?_
  obtain ⟨hg, hR⟩ := hR
  refine x_icmp_ge (pc := 202) (tgt := 229) (show decode mX8_seen.2.1 202 = .ok (.if_icmp .ge 27, 3) by decide +kernel) (by decide) ⟨hg.1, hg.2⟩ (fun hc => ?_) (fun hc => ?_)
  · replace hR := hR.1 hc
    refine x_iload (pc := 229) (show decode mX8_seen.2.1 229 = .ok (.iload 5, 2) by decide +kernel) rfl ?_
    refine x_iload (pc := 231) (show decode mX8_seen.2.1 231 = .ok (.iload 7, 2) by decide +kernel) rfl ?_
    obtain ⟨hg, hR⟩ := hR
    refine x_if_eq (pc := 233) (tgt := 243) (show decode mX8_seen.2.1 233 = .ok (.ifCond .eq 10, 3) by decide +kernel) (by decide) hg (fun hc => ?_) (fun hc => ?_)
    · replace hR := hR.1 hc
      refine x_iconst (pc := 243) (n := 0) (show decode mX8_seen.2.1 243 = .ok (.iconst 0, 1) by decide +kernel) ?_
      refine x_ior (pc := 244) (show decode mX8_seen.2.1 244 = .ok (.ior, 1) by decide +kernel) ?_
      refine x_istore (pc := 245) (ls' := [some (.inr (.inr 0)), some (.inl x1), some (.inl x2), some (.inl x3), some (.inl x4), some (.inl (xorI x5 0)), some (.inl x6), some (.inl x7), some (.inl x8)]) (show decode mX8_seen.2.1 245 = .ok (.istore 5, 2) by decide +kernel) (by decide) rfl ?_
      refine x_iinc (pc := 247) (ls' := [some (.inr (.inr 0)), some (.inl x1), some (.inl x2), some (.inl x3), some (.inl x4), some (.inl (xorI x5 0)), some (.inl (x6 + 1)), some (.inl x7), some (.inl x8)]) (show decode mX8_seen.2.1 247 = .ok (.iinc 6 1, 3) by decide +kernel) (by decide) rfl rfl ?_
      refine x_goto (pc := 250) (tgt := 114) (show decode mX8_seen.2.1 250 = .ok (.goto (-136), 3) by decide +kernel) (by decide) ?_
      exact x_weak (xle_get (by repeat' constructor)) hR
    · replace hR := hR.2 hc
      refine x_iconst (pc := 236) (n := 1) (show decode mX8_seen.2.1 236 = .ok (.iconst 1, 1) by decide +kernel) ?_
      refine x_iload (pc := 237) (show decode mX8_seen.2.1 237 = .ok (.iload 6, 2) by decide +kernel) rfl ?_
      obtain ⟨hg, hR⟩ := hR
      refine x_ishl (pc := 239) (show decode mX8_seen.2.1 239 = .ok (.ishl, 1) by decide +kernel) hg ?_
      refine x_goto (pc := 240) (tgt := 244) (show decode mX8_seen.2.1 240 = .ok (.goto 4, 3) by decide +kernel) (by decide) ?_
      refine x_ior (pc := 244) (show decode mX8_seen.2.1 244 = .ok (.ior, 1) by decide +kernel) ?_
      refine x_istore (pc := 245) (ls' := [some (.inr (.inr 0)), some (.inl x1), some (.inl x2), some (.inl x3), some (.inl x4), some (.inl (xorI x5 (1 * 2 ^ (Int.toNat x6)))), some (.inl x6), some (.inl x7), some (.inl x8)]) (show decode mX8_seen.2.1 245 = .ok (.istore 5, 2) by decide +kernel) (by decide) rfl ?_
      refine x_iinc (pc := 247) (ls' := [some (.inr (.inr 0)), some (.inl x1), some (.inl x2), some (.inl x3), some (.inl x4), some (.inl (xorI x5 (1 * 2 ^ (Int.toNat x6)))), some (.inl (x6 + 1)), some (.inl x7), some (.inl x8)]) (show decode mX8_seen.2.1 247 = .ok (.iinc 6 1, 3) by decide +kernel) (by decide) rfl rfl ?_
      refine x_goto (pc := 250) (tgt := 114) (show decode mX8_seen.2.1 250 = .ok (.goto (-136), 3) by decide +kernel) (by decide) ?_
      exact x_weak (xle_get (by repeat' constructor)) hR
  · replace hR := hR.2 hc
    refine x_aload_n (pc := 205) (show decode mX8_seen.2.1 205 = .ok (.aload_n 0, 1) by decide +kernel) rfl rfl ?_
    refine x_getR (pc := 206) f8_11 rfl rfl (show decode mX8_seen.2.1 206 = .ok (.getfield 11, 3) by decide +kernel) ?_
    refine x_sipush (pc := 209) (n := 157) (show decode mX8_seen.2.1 209 = .ok (.sipush 157, 3) by decide +kernel) rfl ?_
    refine x_iload (pc := 212) (show decode mX8_seen.2.1 212 = .ok (.iload 8, 2) by decide +kernel) rfl ?_
    refine x_iadd (pc := 214) (show decode mX8_seen.2.1 214 = .ok (.iadd, 1) by decide +kernel) ?_
    refine x_aload_n (pc := 215) (show decode mX8_seen.2.1 215 = .ok (.aload_n 0, 1) by decide +kernel) rfl rfl ?_
    refine x_getR (pc := 216) f8_65 rfl rfl (show decode mX8_seen.2.1 216 = .ok (.getfield 65, 3) by decide +kernel) ?_
    refine x_iload (pc := 219) (show decode mX8_seen.2.1 219 = .ok (.iload 8, 2) by decide +kernel) rfl ?_
    obtain ⟨hg, hR⟩ := hR
    refine x_iald (pc := 221) rfl (by decide) hg (show decode mX8_seen.2.1 221 = .ok (.iaload, 1) by decide +kernel) ?_
    obtain ⟨hg, hR⟩ := hR
    refine x_iast (pc := 222) rfl (by decide) hg (show decode mX8_seen.2.1 222 = .ok (.iastore, 1) by decide +kernel) ?_
    refine x_iinc (pc := 223) (ls' := [some (.inr (.inr 0)), some (.inl x1), some (.inl x2), some (.inl x3), some (.inl x4), some (.inl x5), some (.inl x6), some (.inl x7), some (.inl (x8 + 1))]) (show decode mX8_seen.2.1 223 = .ok (.iinc 8 1, 3) by decide +kernel) (by decide) rfl rfl ?_
    refine x_goto (pc := 226) (tgt := 198) (show decode mX8_seen.2.1 226 = .ok (.goto (-28), 3) by decide +kernel) (by decide) ?_
    exact hR
set_option maxRecDepth 4000 in
theorem sg_X8_feed_0 {d : Nat} {x1 : Int} {h : xH} {Q : Int → xH → Prop} (hd : 1 ≤ d)
    (hR : inI x1 ∧ cB wdM (d - 1) mX8_isIn [.inr (.inl x1), .inr (.inl 1), .inr (.inl 127)] h (fun h1 => (inI (h1 0 22)) ∧ (¬ (h1 0 22) = 120 → (0 ≤ (h1 0 22) ∧ (h1 0 22) < 120) ∧ Q ((h1 0 22) + 1) (xu (xu h1 14 (h1 0 22) x1) 0 22 ((h1 0 22) + 1))) ∧ ((h1 0 22) = 120 → Q (-4) h1)) (fun h1 => Q (-2) h1)) :
    gI wdM d mX8_feed 0 [some (.inr (.inr 0)), some (.inl x1)] h Q := by
  unfold gI
  refine x_iload_n (pc := 0) (show decode mX8_feed.2.1 0 = .ok (.iload_n 1, 1) by decide +kernel) rfl rfl ?_
  obtain ⟨hg, hR⟩ := hR
  refine x_i2l (pc := 1) (show decode mX8_feed.2.1 1 = .ok (.i2l, 1) by decide +kernel) hg ?_
  refine x_lconst (pc := 2) (v := 1) (show decode mX8_feed.2.1 2 = .ok (.lconst 1, 1) by decide +kernel) rfl ?_
  refine x_ldc2 (pc := 3) (n := 127) (tblG_m6 108 rfl rfl) rfl (show decode mX8_feed.2.1 3 = .ok (.ldc2_w 228, 3) by decide +kernel) ?_
  refine x_callS (pc := 6) (As := [.inr (.inl x1), .inr (.inl 1), .inr (.inl 127)]) (rest := []) (lk8_79 rfl) sm_X8_isIn (Nat.le_of_ble_eq_true rfl) (Nat.le_of_ble_eq_true rfl) (show decode mX8_feed.2.1 6 = .ok (.invokestatic 79, 3) by decide +kernel) hd hR (fun r9 h1 hq => ?_)
  obtain ⟨r8, rfl, hq⟩ := hq
  rcases hq with ⟨rfl, hR⟩ | ⟨rfl, hR⟩
  · show xG _ _ _ 9 _ [.inl 1] _ _
    refine x_if_ne (pc := 9) (tgt := 15) (show decode mX8_feed.2.1 9 = .ok (.ifCond .ne 6, 3) by decide +kernel) (by decide) (by unfold inI; decide) (fun _ => ?_) (fun hc => absurd hc (by decide))
    refine x_aload_n (pc := 15) (show decode mX8_feed.2.1 15 = .ok (.aload_n 0, 1) by decide +kernel) rfl rfl ?_
    refine x_getI (pc := 16) (ki := 22) f8_230 rfl rfl (by decide) rfl (show decode mX8_feed.2.1 16 = .ok (.getfield 230, 3) by decide +kernel) ?_
    refine x_bipush (pc := 19) (n := 120) (show decode mX8_feed.2.1 19 = .ok (.bipush 120, 2) by decide +kernel) rfl ?_
    obtain ⟨hg, hR⟩ := hR
    refine x_icmp_ne (pc := 21) (tgt := 27) (show decode mX8_feed.2.1 21 = .ok (.if_icmp .ne 6, 3) by decide +kernel) (by decide) ⟨hg, (by unfold inI; decide)⟩ (fun hc => ?_) (fun hc => ?_)
    · replace hR := hR.1 hc
      refine x_aload_n (pc := 27) (show decode mX8_feed.2.1 27 = .ok (.aload_n 0, 1) by decide +kernel) rfl rfl ?_
      refine x_getR (pc := 28) f8_53 rfl rfl (show decode mX8_feed.2.1 28 = .ok (.getfield 53, 3) by decide +kernel) ?_
      refine x_aload_n (pc := 31) (show decode mX8_feed.2.1 31 = .ok (.aload_n 0, 1) by decide +kernel) rfl rfl ?_
      refine x_getI (pc := 32) (ki := 22) f8_230 rfl rfl (by decide) rfl (show decode mX8_feed.2.1 32 = .ok (.getfield 230, 3) by decide +kernel) ?_
      refine x_iload_n (pc := 35) (show decode mX8_feed.2.1 35 = .ok (.iload_n 1, 1) by decide +kernel) rfl rfl ?_
      obtain ⟨hg, hR⟩ := hR
      refine x_iast (pc := 36) rfl (by decide) hg (show decode mX8_feed.2.1 36 = .ok (.iastore, 1) by decide +kernel) ?_
      refine x_aload_n (pc := 37) (show decode mX8_feed.2.1 37 = .ok (.aload_n 0, 1) by decide +kernel) rfl rfl ?_
      refine x_dup (pc := 38) (show decode mX8_feed.2.1 38 = .ok (.dup, 1) by decide +kernel) rfl ?_
      refine x_getI (pc := 39) (ki := 22) f8_230 rfl rfl (by decide) rfl (show decode mX8_feed.2.1 39 = .ok (.getfield 230, 3) by decide +kernel) ?_
      refine x_iconst (pc := 42) (n := 1) (show decode mX8_feed.2.1 42 = .ok (.iconst 1, 1) by decide +kernel) ?_
      refine x_iadd (pc := 43) (show decode mX8_feed.2.1 43 = .ok (.iadd, 1) by decide +kernel) ?_
      refine x_putI (pc := 44) (ki := 22) f8_230 fp8_22 rfl rfl rfl (show decode mX8_feed.2.1 44 = .ok (.putfield 230, 3) by decide +kernel) ?_
      refine x_aload_n (pc := 47) (show decode mX8_feed.2.1 47 = .ok (.aload_n 0, 1) by decide +kernel) rfl rfl ?_
      refine x_getI (pc := 48) (ki := 22) f8_230 rfl rfl (by decide) rfl (show decode mX8_feed.2.1 48 = .ok (.getfield 230, 3) by decide +kernel) ?_
      exact x_iret (pc := 51) rfl (show decode mX8_feed.2.1 51 = .ok (.ireturn, 1) by decide +kernel) ⟨_, rfl, hR⟩
    · replace hR := hR.2 hc
      refine x_bipush (pc := 24) (n := (-4)) (show decode mX8_feed.2.1 24 = .ok (.bipush (-4), 2) by decide +kernel) rfl ?_
      exact x_iret (pc := 26) rfl (show decode mX8_feed.2.1 26 = .ok (.ireturn, 1) by decide +kernel) ⟨_, rfl, hR⟩
  · show xG _ _ _ 9 _ [.inl 0] _ _
    refine x_if_ne (pc := 9) (tgt := 15) (show decode mX8_feed.2.1 9 = .ok (.ifCond .ne 6, 3) by decide +kernel) (by decide) (by unfold inI; decide) (fun hc => absurd hc (by decide)) (fun _ => ?_)
    refine x_bipush (pc := 12) (n := (-2)) (show decode mX8_feed.2.1 12 = .ok (.bipush (-2), 2) by decide +kernel) rfl ?_
    exact x_iret (pc := 14) rfl (show decode mX8_feed.2.1 14 = .ok (.ireturn, 1) by decide +kernel) ⟨_, rfl, hR⟩
set_option maxRecDepth 4000 in
theorem sg_X8_clear_0 {d : Nat} {h : xH} {Q : Int → xH → Prop}
    (hR : Q (h 0 22) (xu h 0 22 0)) :
    gI wdM d mX8_clear 0 [some (.inr (.inr 0)), none] h Q := by
  unfold gI
  refine x_aload_n (pc := 0) (show decode mX8_clear.2.1 0 = .ok (.aload_n 0, 1) by decide +kernel) rfl rfl ?_
  refine x_getI (pc := 1) (ki := 22) f8_230 rfl rfl (by decide) rfl (show decode mX8_clear.2.1 1 = .ok (.getfield 230, 3) by decide +kernel) ?_
  refine x_istore_n (pc := 4) (ls' := [some (.inr (.inr 0)), some (.inl (h 0 22))]) (show decode mX8_clear.2.1 4 = .ok (.istore_n 1, 1) by decide +kernel) rfl (by decide) rfl ?_
  refine x_aload_n (pc := 5) (show decode mX8_clear.2.1 5 = .ok (.aload_n 0, 1) by decide +kernel) rfl rfl ?_
  refine x_iconst (pc := 6) (n := 0) (show decode mX8_clear.2.1 6 = .ok (.iconst 0, 1) by decide +kernel) ?_
  refine x_putI (pc := 7) (ki := 22) f8_230 fp8_22 rfl rfl rfl (show decode mX8_clear.2.1 7 = .ok (.putfield 230, 3) by decide +kernel) ?_
  refine x_iload_n (pc := 10) (show decode mX8_clear.2.1 10 = .ok (.iload_n 1, 1) by decide +kernel) rfl rfl ?_
  exact x_iret (pc := 11) rfl (show decode mX8_clear.2.1 11 = .ok (.ireturn, 1) by decide +kernel) ⟨_, rfl, hR⟩
set_option maxRecDepth 4000 in
theorem sg_X8_here_0 {d : Nat} {h : xH} {Q : Int → xH → Prop}
    (hR : (inI (h 0 24) ∧ inI (h 0 22)) ∧ ((h 0 22) ≤ (h 0 24) → Q 0 h) ∧ ((h 0 24) < (h 0 22) → (0 ≤ (h 0 24) ∧ (h 0 24) < 120) ∧ Q (h 14 (h 0 24)) h)) :
    gI wdM d mX8_here 0 [some (.inr (.inr 0))] h Q := by
  unfold gI
  refine x_aload_n (pc := 0) (show decode mX8_here.2.1 0 = .ok (.aload_n 0, 1) by decide +kernel) rfl rfl ?_
  refine x_getI (pc := 1) (ki := 24) f8_233 rfl rfl (by decide) rfl (show decode mX8_here.2.1 1 = .ok (.getfield 233, 3) by decide +kernel) ?_
  refine x_aload_n (pc := 4) (show decode mX8_here.2.1 4 = .ok (.aload_n 0, 1) by decide +kernel) rfl rfl ?_
  refine x_getI (pc := 5) (ki := 22) f8_230 rfl rfl (by decide) rfl (show decode mX8_here.2.1 5 = .ok (.getfield 230, 3) by decide +kernel) ?_
  obtain ⟨hg, hR⟩ := hR
  refine x_icmp_ge (pc := 8) (tgt := 23) (show decode mX8_here.2.1 8 = .ok (.if_icmp .ge 15, 3) by decide +kernel) (by decide) ⟨hg.1, hg.2⟩ (fun hc => ?_) (fun hc => ?_)
  · replace hR := hR.1 hc
    refine x_iconst (pc := 23) (n := 0) (show decode mX8_here.2.1 23 = .ok (.iconst 0, 1) by decide +kernel) ?_
    exact x_iret (pc := 24) rfl (show decode mX8_here.2.1 24 = .ok (.ireturn, 1) by decide +kernel) ⟨_, rfl, hR⟩
  · replace hR := hR.2 hc
    refine x_aload_n (pc := 11) (show decode mX8_here.2.1 11 = .ok (.aload_n 0, 1) by decide +kernel) rfl rfl ?_
    refine x_getR (pc := 12) f8_53 rfl rfl (show decode mX8_here.2.1 12 = .ok (.getfield 53, 3) by decide +kernel) ?_
    refine x_aload_n (pc := 15) (show decode mX8_here.2.1 15 = .ok (.aload_n 0, 1) by decide +kernel) rfl rfl ?_
    refine x_getI (pc := 16) (ki := 24) f8_233 rfl rfl (by decide) rfl (show decode mX8_here.2.1 16 = .ok (.getfield 233, 3) by decide +kernel) ?_
    obtain ⟨hg, hR⟩ := hR
    refine x_iald (pc := 19) rfl (by decide) hg (show decode mX8_here.2.1 19 = .ok (.iaload, 1) by decide +kernel) ?_
    refine x_goto (pc := 20) (tgt := 24) (show decode mX8_here.2.1 20 = .ok (.goto 4, 3) by decide +kernel) (by decide) ?_
    exact x_iret (pc := 24) rfl (show decode mX8_here.2.1 24 = .ok (.ireturn, 1) by decide +kernel) ⟨_, rfl, hR⟩
set_option maxRecDepth 4000 in
theorem sg_X8_fails_0 {d : Nat} {x1 : Int} {h : xH} {Q : xH → Prop}
    (hR : (inI (h 0 25)) ∧ (0 ≤ (h 0 25) → Q h) ∧ ((h 0 25) < 0 → Q (xu h 0 25 x1))) :
    gV wdM d mX8_fails 0 [some (.inr (.inr 0)), some (.inl x1)] h Q := by
  unfold gV
  refine x_aload_n (pc := 0) (show decode mX8_fails.2.1 0 = .ok (.aload_n 0, 1) by decide +kernel) rfl rfl ?_
  refine x_getI (pc := 1) (ki := 25) f8_236 rfl rfl (by decide) rfl (show decode mX8_fails.2.1 1 = .ok (.getfield 236, 3) by decide +kernel) ?_
  obtain ⟨hg, hR⟩ := hR
  refine x_if_ge (pc := 4) (tgt := 12) (show decode mX8_fails.2.1 4 = .ok (.ifCond .ge 8, 3) by decide +kernel) (by decide) hg (fun hc => ?_) (fun hc => ?_)
  · replace hR := hR.1 hc
    exact x_vret (pc := 12) rfl (show decode mX8_fails.2.1 12 = .ok (.return_, 1) by decide +kernel) ⟨rfl, hR⟩
  · replace hR := hR.2 hc
    refine x_aload_n (pc := 7) (show decode mX8_fails.2.1 7 = .ok (.aload_n 0, 1) by decide +kernel) rfl rfl ?_
    refine x_iload_n (pc := 8) (show decode mX8_fails.2.1 8 = .ok (.iload_n 1, 1) by decide +kernel) rfl rfl ?_
    refine x_putI (pc := 9) (ki := 25) f8_236 fp8_25 rfl rfl rfl (show decode mX8_fails.2.1 9 = .ok (.putfield 236, 3) by decide +kernel) ?_
    exact x_vret (pc := 12) rfl (show decode mX8_fails.2.1 12 = .ok (.return_, 1) by decide +kernel) ⟨rfl, hR⟩
set_option maxRecDepth 4000 in
theorem sg_X8_blank_0 {d : Nat} {h : xH} {Q : xH → Prop} (hd : 1 ≤ d)
    (hR : cI wdM (d - 1) mX8_here [.inr (.inr 0)] h (fun r2 h1 => (inI r2) ∧ (r2 = 32 → (inI (h1 0 25)) ∧ (0 ≤ (h1 0 25) → Q h1) ∧ ((h1 0 25) < 0 → Q (xu h1 0 24 ((h1 0 24) + 1)))) ∧ (¬ r2 = 32 → cV wdM (d - 1) mX8_fails [.inr (.inr 0), .inl (h1 0 24)] h1 (fun h3 => (inI (h3 0 25)) ∧ (0 ≤ (h3 0 25) → Q h3) ∧ ((h3 0 25) < 0 → Q (xu h3 0 24 ((h3 0 24) + 1))))))) :
    gV wdM d mX8_blank 0 [some (.inr (.inr 0))] h Q := by
  unfold gV
  refine x_aload_n (pc := 0) (show decode mX8_blank.2.1 0 = .ok (.aload_n 0, 1) by decide +kernel) rfl rfl ?_
  refine x_callV (pc := 1) (As := []) (rest := []) (lk8_239 rfl) im_X8_here sl_X8_here rfl rfl rfl (Nat.le_of_ble_eq_true rfl) (Nat.le_of_ble_eq_true rfl) (show decode mX8_blank.2.1 1 = .ok (.invokevirtual 239, 3) by decide +kernel) hd hR (fun r9 h1 hq => ?_)
  obtain ⟨r2, rfl, hR⟩ := hq
  show xG _ _ _ 4 _ [.inl r2] _ _
  refine x_bipush (pc := 4) (n := 32) (show decode mX8_blank.2.1 4 = .ok (.bipush 32, 2) by decide +kernel) rfl ?_
  obtain ⟨hg, hR⟩ := hR
  refine x_icmp_eq (pc := 6) (tgt := 17) (show decode mX8_blank.2.1 6 = .ok (.if_icmp .eq 11, 3) by decide +kernel) (by decide) ⟨hg, (by unfold inI; decide)⟩ (fun hc => ?_) (fun hc => ?_)
  · replace hR := hR.1 hc
    refine x_aload_n (pc := 17) (show decode mX8_blank.2.1 17 = .ok (.aload_n 0, 1) by decide +kernel) rfl rfl ?_
    refine x_getI (pc := 18) (ki := 25) f8_236 rfl rfl (by decide) rfl (show decode mX8_blank.2.1 18 = .ok (.getfield 236, 3) by decide +kernel) ?_
    obtain ⟨hg, hR⟩ := hR
    refine x_if_ge (pc := 21) (tgt := 34) (show decode mX8_blank.2.1 21 = .ok (.ifCond .ge 13, 3) by decide +kernel) (by decide) hg (fun hc => ?_) (fun hc => ?_)
    · replace hR := hR.1 hc
      exact x_vret (pc := 34) rfl (show decode mX8_blank.2.1 34 = .ok (.return_, 1) by decide +kernel) ⟨rfl, hR⟩
    · replace hR := hR.2 hc
      refine x_aload_n (pc := 24) (show decode mX8_blank.2.1 24 = .ok (.aload_n 0, 1) by decide +kernel) rfl rfl ?_
      refine x_dup (pc := 25) (show decode mX8_blank.2.1 25 = .ok (.dup, 1) by decide +kernel) rfl ?_
      refine x_getI (pc := 26) (ki := 24) f8_233 rfl rfl (by decide) rfl (show decode mX8_blank.2.1 26 = .ok (.getfield 233, 3) by decide +kernel) ?_
      refine x_iconst (pc := 29) (n := 1) (show decode mX8_blank.2.1 29 = .ok (.iconst 1, 1) by decide +kernel) ?_
      refine x_iadd (pc := 30) (show decode mX8_blank.2.1 30 = .ok (.iadd, 1) by decide +kernel) ?_
      refine x_putI (pc := 31) (ki := 24) f8_233 fp8_24 rfl rfl rfl (show decode mX8_blank.2.1 31 = .ok (.putfield 233, 3) by decide +kernel) ?_
      exact x_vret (pc := 34) rfl (show decode mX8_blank.2.1 34 = .ok (.return_, 1) by decide +kernel) ⟨rfl, hR⟩
  · replace hR := hR.2 hc
    refine x_aload_n (pc := 9) (show decode mX8_blank.2.1 9 = .ok (.aload_n 0, 1) by decide +kernel) rfl rfl ?_
    refine x_aload_n (pc := 10) (show decode mX8_blank.2.1 10 = .ok (.aload_n 0, 1) by decide +kernel) rfl rfl ?_
    refine x_getI (pc := 11) (ki := 24) f8_233 rfl rfl (by decide) rfl (show decode mX8_blank.2.1 11 = .ok (.getfield 233, 3) by decide +kernel) ?_
    refine x_callV (pc := 14) (As := [.inl (h1 0 24)]) (rest := []) (lk8_243 rfl) im_X8_fails sl_X8_fails rfl rfl rfl (Nat.le_of_ble_eq_true rfl) (Nat.le_of_ble_eq_true rfl) (show decode mX8_blank.2.1 14 = .ok (.invokevirtual 243, 3) by decide +kernel) hd hR (fun r9 h3 hq => ?_)
    obtain ⟨rfl, hR⟩ := hq
    show xG _ _ _ 17 _ [] _ _
    refine x_aload_n (pc := 17) (show decode mX8_blank.2.1 17 = .ok (.aload_n 0, 1) by decide +kernel) rfl rfl ?_
    refine x_getI (pc := 18) (ki := 25) f8_236 rfl rfl (by decide) rfl (show decode mX8_blank.2.1 18 = .ok (.getfield 236, 3) by decide +kernel) ?_
    obtain ⟨hg, hR⟩ := hR
    refine x_if_ge (pc := 21) (tgt := 34) (show decode mX8_blank.2.1 21 = .ok (.ifCond .ge 13, 3) by decide +kernel) (by decide) hg (fun hc => ?_) (fun hc => ?_)
    · replace hR := hR.1 hc
      exact x_vret (pc := 34) rfl (show decode mX8_blank.2.1 34 = .ok (.return_, 1) by decide +kernel) ⟨rfl, hR⟩
    · replace hR := hR.2 hc
      refine x_aload_n (pc := 24) (show decode mX8_blank.2.1 24 = .ok (.aload_n 0, 1) by decide +kernel) rfl rfl ?_
      refine x_dup (pc := 25) (show decode mX8_blank.2.1 25 = .ok (.dup, 1) by decide +kernel) rfl ?_
      refine x_getI (pc := 26) (ki := 24) f8_233 rfl rfl (by decide) rfl (show decode mX8_blank.2.1 26 = .ok (.getfield 233, 3) by decide +kernel) ?_
      refine x_iconst (pc := 29) (n := 1) (show decode mX8_blank.2.1 29 = .ok (.iconst 1, 1) by decide +kernel) ?_
      refine x_iadd (pc := 30) (show decode mX8_blank.2.1 30 = .ok (.iadd, 1) by decide +kernel) ?_
      refine x_putI (pc := 31) (ki := 24) f8_233 fp8_24 rfl rfl rfl (show decode mX8_blank.2.1 31 = .ok (.putfield 233, 3) by decide +kernel) ?_
      exact x_vret (pc := 34) rfl (show decode mX8_blank.2.1 34 = .ok (.return_, 1) by decide +kernel) ⟨rfl, hR⟩
set_option maxRecDepth 4000 in
theorem sg_X8_figures_0 {d : Nat} {h : xH} {Q : Int → xH → Prop} (hd : 1 ≤ d)
    (hR : cV wdM (d - 1) mX8_blank [.inr (.inr 0)] h (fun h1 => gI wdM d mX8_figures 11 [some (.inr (.inr 0)), some (.inl (h1 0 24)), some (.inl 0)] h1 Q)) :
    gI wdM d mX8_figures 0 [some (.inr (.inr 0)), none, none] h Q := by
  unfold gI
  refine x_aload_n (pc := 0) (show decode mX8_figures.2.1 0 = .ok (.aload_n 0, 1) by decide +kernel) rfl rfl ?_
  refine x_callV (pc := 1) (As := []) (rest := []) (lk8_246 rfl) im_X8_blank sl_X8_blank rfl rfl rfl (Nat.le_of_ble_eq_true rfl) (Nat.le_of_ble_eq_true rfl) (show decode mX8_figures.2.1 1 = .ok (.invokevirtual 246, 3) by decide +kernel) hd hR (fun r9 h1 hq => ?_)
  obtain ⟨rfl, hR⟩ := hq
  show xG _ _ _ 4 _ [] _ _
  refine x_aload_n (pc := 4) (show decode mX8_figures.2.1 4 = .ok (.aload_n 0, 1) by decide +kernel) rfl rfl ?_
  refine x_getI (pc := 5) (ki := 24) f8_233 rfl rfl (by decide) rfl (show decode mX8_figures.2.1 5 = .ok (.getfield 233, 3) by decide +kernel) ?_
  refine x_istore_n (pc := 8) (ls' := [some (.inr (.inr 0)), some (.inl (h1 0 24)), none]) (show decode mX8_figures.2.1 8 = .ok (.istore_n 1, 1) by decide +kernel) rfl (by decide) rfl ?_
  refine x_iconst (pc := 9) (n := 0) (show decode mX8_figures.2.1 9 = .ok (.iconst 0, 1) by decide +kernel) ?_
  refine x_istore_n (pc := 10) (ls' := [some (.inr (.inr 0)), some (.inl (h1 0 24)), some (.inl 0)]) (show decode mX8_figures.2.1 10 = .ok (.istore_n 2, 1) by decide +kernel) rfl (by decide) rfl ?_
  exact hR
set_option maxRecDepth 4000 in
theorem sg_X8_figures_11 {d : Nat} {x1 x2 : Int} {h : xH} {Q : Int → xH → Prop} (hd : 1 ≤ d)
    (hR : (inI (h 0 25)) ∧ (0 ≤ (h 0 25) → (inI (h 0 24) ∧ inI x1) ∧ (¬ (h 0 24) = x1 → Q x2 h) ∧ ((h 0 24) = x1 → cV wdM (d - 1) mX8_fails [.inr (.inr 0), .inl (h 0 24)] h (fun h1 => Q x2 h1))) ∧ ((h 0 25) < 0 → (inI (h 0 24) ∧ inI (x1 + 2)) ∧ ((x1 + 2) ≤ (h 0 24) → (inI (h 0 24) ∧ inI x1) ∧ (¬ (h 0 24) = x1 → Q x2 h) ∧ ((h 0 24) = x1 → cV wdM (d - 1) mX8_fails [.inr (.inr 0), .inl (h 0 24)] h (fun h2 => Q x2 h2))) ∧ ((h 0 24) < (x1 + 2) → cI wdM (d - 1) mX8_here [.inr (.inr 0)] h (fun r4 h3 => (inI r4) ∧ (r4 < 48 → (inI (h3 0 24) ∧ inI x1) ∧ (¬ (h3 0 24) = x1 → Q x2 h3) ∧ ((h3 0 24) = x1 → cV wdM (d - 1) mX8_fails [.inr (.inr 0), .inl (h3 0 24)] h3 (fun h5 => Q x2 h5))) ∧ (48 ≤ r4 → cI wdM (d - 1) mX8_here [.inr (.inr 0)] h3 (fun r7 h6 => (inI r7) ∧ (57 < r7 → (inI (h6 0 24) ∧ inI x1) ∧ (¬ (h6 0 24) = x1 → Q x2 h6) ∧ ((h6 0 24) = x1 → cV wdM (d - 1) mX8_fails [.inr (.inr 0), .inl (h6 0 24)] h6 (fun h8 => Q x2 h8))) ∧ (r7 ≤ 57 → cI wdM (d - 1) mX8_here [.inr (.inr 0)] h6 (fun r10 h9 => gI wdM d mX8_figures 11 [some (.inr (.inr 0)), some (.inl x1), some (.inl (((10 * x2) + r10) - 48))] (xu h9 0 24 ((h9 0 24) + 1)) Q)))))))) :
    gI wdM d mX8_figures 11 [some (.inr (.inr 0)), some (.inl x1), some (.inl x2)] h Q := by
  unfold gI
  refine x_aload_n (pc := 11) (show decode mX8_figures.2.1 11 = .ok (.aload_n 0, 1) by decide +kernel) rfl rfl ?_
  refine x_getI (pc := 12) (ki := 25) f8_236 rfl rfl (by decide) rfl (show decode mX8_figures.2.1 12 = .ok (.getfield 236, 3) by decide +kernel) ?_
  obtain ⟨hg, hR⟩ := hR
  refine x_if_ge (pc := 15) (tgt := 72) (show decode mX8_figures.2.1 15 = .ok (.ifCond .ge 57, 3) by decide +kernel) (by decide) hg (fun hc => ?_) (fun hc => ?_)
  · replace hR := hR.1 hc
    refine x_aload_n (pc := 72) (show decode mX8_figures.2.1 72 = .ok (.aload_n 0, 1) by decide +kernel) rfl rfl ?_
    refine x_getI (pc := 73) (ki := 24) f8_233 rfl rfl (by decide) rfl (show decode mX8_figures.2.1 73 = .ok (.getfield 233, 3) by decide +kernel) ?_
    refine x_iload_n (pc := 76) (show decode mX8_figures.2.1 76 = .ok (.iload_n 1, 1) by decide +kernel) rfl rfl ?_
    obtain ⟨hg, hR⟩ := hR
    refine x_icmp_ne (pc := 77) (tgt := 88) (show decode mX8_figures.2.1 77 = .ok (.if_icmp .ne 11, 3) by decide +kernel) (by decide) ⟨hg.1, hg.2⟩ (fun hc => ?_) (fun hc => ?_)
    · replace hR := hR.1 hc
      refine x_iload_n (pc := 88) (show decode mX8_figures.2.1 88 = .ok (.iload_n 2, 1) by decide +kernel) rfl rfl ?_
      exact x_iret (pc := 89) rfl (show decode mX8_figures.2.1 89 = .ok (.ireturn, 1) by decide +kernel) ⟨_, rfl, hR⟩
    · replace hR := hR.2 hc
      refine x_aload_n (pc := 80) (show decode mX8_figures.2.1 80 = .ok (.aload_n 0, 1) by decide +kernel) rfl rfl ?_
      refine x_aload_n (pc := 81) (show decode mX8_figures.2.1 81 = .ok (.aload_n 0, 1) by decide +kernel) rfl rfl ?_
      refine x_getI (pc := 82) (ki := 24) f8_233 rfl rfl (by decide) rfl (show decode mX8_figures.2.1 82 = .ok (.getfield 233, 3) by decide +kernel) ?_
      refine x_callV (pc := 85) (As := [.inl (h 0 24)]) (rest := []) (lk8_243 rfl) im_X8_fails sl_X8_fails rfl rfl rfl (Nat.le_of_ble_eq_true rfl) (Nat.le_of_ble_eq_true rfl) (show decode mX8_figures.2.1 85 = .ok (.invokevirtual 243, 3) by decide +kernel) hd hR (fun r9 h1 hq => ?_)
      obtain ⟨rfl, hR⟩ := hq
      show xG _ _ _ 88 _ [] _ _
      refine x_iload_n (pc := 88) (show decode mX8_figures.2.1 88 = .ok (.iload_n 2, 1) by decide +kernel) rfl rfl ?_
      exact x_iret (pc := 89) rfl (show decode mX8_figures.2.1 89 = .ok (.ireturn, 1) by decide +kernel) ⟨_, rfl, hR⟩
  · replace hR := hR.2 hc
    refine x_aload_n (pc := 18) (show decode mX8_figures.2.1 18 = .ok (.aload_n 0, 1) by decide +kernel) rfl rfl ?_
    refine x_getI (pc := 19) (ki := 24) f8_233 rfl rfl (by decide) rfl (show decode mX8_figures.2.1 19 = .ok (.getfield 233, 3) by decide +kernel) ?_
    refine x_iload_n (pc := 22) (show decode mX8_figures.2.1 22 = .ok (.iload_n 1, 1) by decide +kernel) rfl rfl ?_
    refine x_iconst (pc := 23) (n := 2) (show decode mX8_figures.2.1 23 = .ok (.iconst 2, 1) by decide +kernel) ?_
    refine x_iadd (pc := 24) (show decode mX8_figures.2.1 24 = .ok (.iadd, 1) by decide +kernel) ?_
    obtain ⟨hg, hR⟩ := hR
    refine x_icmp_ge (pc := 25) (tgt := 72) (show decode mX8_figures.2.1 25 = .ok (.if_icmp .ge 47, 3) by decide +kernel) (by decide) ⟨hg.1, hg.2⟩ (fun hc => ?_) (fun hc => ?_)
    · replace hR := hR.1 hc
      refine x_aload_n (pc := 72) (show decode mX8_figures.2.1 72 = .ok (.aload_n 0, 1) by decide +kernel) rfl rfl ?_
      refine x_getI (pc := 73) (ki := 24) f8_233 rfl rfl (by decide) rfl (show decode mX8_figures.2.1 73 = .ok (.getfield 233, 3) by decide +kernel) ?_
      refine x_iload_n (pc := 76) (show decode mX8_figures.2.1 76 = .ok (.iload_n 1, 1) by decide +kernel) rfl rfl ?_
      obtain ⟨hg, hR⟩ := hR
      refine x_icmp_ne (pc := 77) (tgt := 88) (show decode mX8_figures.2.1 77 = .ok (.if_icmp .ne 11, 3) by decide +kernel) (by decide) ⟨hg.1, hg.2⟩ (fun hc => ?_) (fun hc => ?_)
      · replace hR := hR.1 hc
        refine x_iload_n (pc := 88) (show decode mX8_figures.2.1 88 = .ok (.iload_n 2, 1) by decide +kernel) rfl rfl ?_
        exact x_iret (pc := 89) rfl (show decode mX8_figures.2.1 89 = .ok (.ireturn, 1) by decide +kernel) ⟨_, rfl, hR⟩
      · replace hR := hR.2 hc
        refine x_aload_n (pc := 80) (show decode mX8_figures.2.1 80 = .ok (.aload_n 0, 1) by decide +kernel) rfl rfl ?_
        refine x_aload_n (pc := 81) (show decode mX8_figures.2.1 81 = .ok (.aload_n 0, 1) by decide +kernel) rfl rfl ?_
        refine x_getI (pc := 82) (ki := 24) f8_233 rfl rfl (by decide) rfl (show decode mX8_figures.2.1 82 = .ok (.getfield 233, 3) by decide +kernel) ?_
        refine x_callV (pc := 85) (As := [.inl (h 0 24)]) (rest := []) (lk8_243 rfl) im_X8_fails sl_X8_fails rfl rfl rfl (Nat.le_of_ble_eq_true rfl) (Nat.le_of_ble_eq_true rfl) (show decode mX8_figures.2.1 85 = .ok (.invokevirtual 243, 3) by decide +kernel) hd hR (fun r9 h2 hq => ?_)
        obtain ⟨rfl, hR⟩ := hq
        show xG _ _ _ 88 _ [] _ _
        refine x_iload_n (pc := 88) (show decode mX8_figures.2.1 88 = .ok (.iload_n 2, 1) by decide +kernel) rfl rfl ?_
        exact x_iret (pc := 89) rfl (show decode mX8_figures.2.1 89 = .ok (.ireturn, 1) by decide +kernel) ⟨_, rfl, hR⟩
    · replace hR := hR.2 hc
      refine x_aload_n (pc := 28) (show decode mX8_figures.2.1 28 = .ok (.aload_n 0, 1) by decide +kernel) rfl rfl ?_
      refine x_callV (pc := 29) (As := []) (rest := []) (lk8_239 rfl) im_X8_here sl_X8_here rfl rfl rfl (Nat.le_of_ble_eq_true rfl) (Nat.le_of_ble_eq_true rfl) (show decode mX8_figures.2.1 29 = .ok (.invokevirtual 239, 3) by decide +kernel) hd hR (fun r9 h3 hq => ?_)
      obtain ⟨r4, rfl, hR⟩ := hq
      show xG _ _ _ 32 _ [.inl r4] _ _
      refine x_bipush (pc := 32) (n := 48) (show decode mX8_figures.2.1 32 = .ok (.bipush 48, 2) by decide +kernel) rfl ?_
      obtain ⟨hg, hR⟩ := hR
      refine x_icmp_lt (pc := 34) (tgt := 72) (show decode mX8_figures.2.1 34 = .ok (.if_icmp .lt 38, 3) by decide +kernel) (by decide) ⟨hg, (by unfold inI; decide)⟩ (fun hc => ?_) (fun hc => ?_)
      · replace hR := hR.1 hc
        refine x_aload_n (pc := 72) (show decode mX8_figures.2.1 72 = .ok (.aload_n 0, 1) by decide +kernel) rfl rfl ?_
        refine x_getI (pc := 73) (ki := 24) f8_233 rfl rfl (by decide) rfl (show decode mX8_figures.2.1 73 = .ok (.getfield 233, 3) by decide +kernel) ?_
        refine x_iload_n (pc := 76) (show decode mX8_figures.2.1 76 = .ok (.iload_n 1, 1) by decide +kernel) rfl rfl ?_
        obtain ⟨hg, hR⟩ := hR
        refine x_icmp_ne (pc := 77) (tgt := 88) (show decode mX8_figures.2.1 77 = .ok (.if_icmp .ne 11, 3) by decide +kernel) (by decide) ⟨hg.1, hg.2⟩ (fun hc => ?_) (fun hc => ?_)
        · replace hR := hR.1 hc
          refine x_iload_n (pc := 88) (show decode mX8_figures.2.1 88 = .ok (.iload_n 2, 1) by decide +kernel) rfl rfl ?_
          exact x_iret (pc := 89) rfl (show decode mX8_figures.2.1 89 = .ok (.ireturn, 1) by decide +kernel) ⟨_, rfl, hR⟩
        · replace hR := hR.2 hc
          refine x_aload_n (pc := 80) (show decode mX8_figures.2.1 80 = .ok (.aload_n 0, 1) by decide +kernel) rfl rfl ?_
          refine x_aload_n (pc := 81) (show decode mX8_figures.2.1 81 = .ok (.aload_n 0, 1) by decide +kernel) rfl rfl ?_
          refine x_getI (pc := 82) (ki := 24) f8_233 rfl rfl (by decide) rfl (show decode mX8_figures.2.1 82 = .ok (.getfield 233, 3) by decide +kernel) ?_
          refine x_callV (pc := 85) (As := [.inl (h3 0 24)]) (rest := []) (lk8_243 rfl) im_X8_fails sl_X8_fails rfl rfl rfl (Nat.le_of_ble_eq_true rfl) (Nat.le_of_ble_eq_true rfl) (show decode mX8_figures.2.1 85 = .ok (.invokevirtual 243, 3) by decide +kernel) hd hR (fun r9 h5 hq => ?_)
          obtain ⟨rfl, hR⟩ := hq
          show xG _ _ _ 88 _ [] _ _
          refine x_iload_n (pc := 88) (show decode mX8_figures.2.1 88 = .ok (.iload_n 2, 1) by decide +kernel) rfl rfl ?_
          exact x_iret (pc := 89) rfl (show decode mX8_figures.2.1 89 = .ok (.ireturn, 1) by decide +kernel) ⟨_, rfl, hR⟩
      · replace hR := hR.2 hc
        refine x_aload_n (pc := 37) (show decode mX8_figures.2.1 37 = .ok (.aload_n 0, 1) by decide +kernel) rfl rfl ?_
        refine x_callV (pc := 38) (As := []) (rest := []) (lk8_239 rfl) im_X8_here sl_X8_here rfl rfl rfl (Nat.le_of_ble_eq_true rfl) (Nat.le_of_ble_eq_true rfl) (show decode mX8_figures.2.1 38 = .ok (.invokevirtual 239, 3) by decide +kernel) hd hR (fun r9 h6 hq => ?_)
        obtain ⟨r7, rfl, hR⟩ := hq
        show xG _ _ _ 41 _ [.inl r7] _ _
        refine x_bipush (pc := 41) (n := 57) (show decode mX8_figures.2.1 41 = .ok (.bipush 57, 2) by decide +kernel) rfl ?_
        obtain ⟨hg, hR⟩ := hR
        refine x_icmp_gt (pc := 43) (tgt := 72) (show decode mX8_figures.2.1 43 = .ok (.if_icmp .gt 29, 3) by decide +kernel) (by decide) ⟨hg, (by unfold inI; decide)⟩ (fun hc => ?_) (fun hc => ?_)
        · replace hR := hR.1 hc
          refine x_aload_n (pc := 72) (show decode mX8_figures.2.1 72 = .ok (.aload_n 0, 1) by decide +kernel) rfl rfl ?_
          refine x_getI (pc := 73) (ki := 24) f8_233 rfl rfl (by decide) rfl (show decode mX8_figures.2.1 73 = .ok (.getfield 233, 3) by decide +kernel) ?_
          refine x_iload_n (pc := 76) (show decode mX8_figures.2.1 76 = .ok (.iload_n 1, 1) by decide +kernel) rfl rfl ?_
          obtain ⟨hg, hR⟩ := hR
          refine x_icmp_ne (pc := 77) (tgt := 88) (show decode mX8_figures.2.1 77 = .ok (.if_icmp .ne 11, 3) by decide +kernel) (by decide) ⟨hg.1, hg.2⟩ (fun hc => ?_) (fun hc => ?_)
          · replace hR := hR.1 hc
            refine x_iload_n (pc := 88) (show decode mX8_figures.2.1 88 = .ok (.iload_n 2, 1) by decide +kernel) rfl rfl ?_
            exact x_iret (pc := 89) rfl (show decode mX8_figures.2.1 89 = .ok (.ireturn, 1) by decide +kernel) ⟨_, rfl, hR⟩
          · replace hR := hR.2 hc
            refine x_aload_n (pc := 80) (show decode mX8_figures.2.1 80 = .ok (.aload_n 0, 1) by decide +kernel) rfl rfl ?_
            refine x_aload_n (pc := 81) (show decode mX8_figures.2.1 81 = .ok (.aload_n 0, 1) by decide +kernel) rfl rfl ?_
            refine x_getI (pc := 82) (ki := 24) f8_233 rfl rfl (by decide) rfl (show decode mX8_figures.2.1 82 = .ok (.getfield 233, 3) by decide +kernel) ?_
            refine x_callV (pc := 85) (As := [.inl (h6 0 24)]) (rest := []) (lk8_243 rfl) im_X8_fails sl_X8_fails rfl rfl rfl (Nat.le_of_ble_eq_true rfl) (Nat.le_of_ble_eq_true rfl) (show decode mX8_figures.2.1 85 = .ok (.invokevirtual 243, 3) by decide +kernel) hd hR (fun r9 h8 hq => ?_)
            obtain ⟨rfl, hR⟩ := hq
            show xG _ _ _ 88 _ [] _ _
            refine x_iload_n (pc := 88) (show decode mX8_figures.2.1 88 = .ok (.iload_n 2, 1) by decide +kernel) rfl rfl ?_
            exact x_iret (pc := 89) rfl (show decode mX8_figures.2.1 89 = .ok (.ireturn, 1) by decide +kernel) ⟨_, rfl, hR⟩
        · replace hR := hR.2 hc
          refine x_bipush (pc := 46) (n := 10) (show decode mX8_figures.2.1 46 = .ok (.bipush 10, 2) by decide +kernel) rfl ?_
          refine x_iload_n (pc := 48) (show decode mX8_figures.2.1 48 = .ok (.iload_n 2, 1) by decide +kernel) rfl rfl ?_
          refine x_imul (pc := 49) (show decode mX8_figures.2.1 49 = .ok (.imul, 1) by decide +kernel) ?_
          refine x_aload_n (pc := 50) (show decode mX8_figures.2.1 50 = .ok (.aload_n 0, 1) by decide +kernel) rfl rfl ?_
          refine x_callV (pc := 51) (As := []) (rest := [.inl (10 * x2)]) (lk8_239 rfl) im_X8_here sl_X8_here rfl rfl rfl (Nat.le_of_ble_eq_true rfl) (Nat.le_of_ble_eq_true rfl) (show decode mX8_figures.2.1 51 = .ok (.invokevirtual 239, 3) by decide +kernel) hd hR (fun r9 h9 hq => ?_)
          obtain ⟨r10, rfl, hR⟩ := hq
          show xG _ _ _ 54 _ [.inl r10, .inl (10 * x2)] _ _
          refine x_iadd (pc := 54) (show decode mX8_figures.2.1 54 = .ok (.iadd, 1) by decide +kernel) ?_
          refine x_bipush (pc := 55) (n := 48) (show decode mX8_figures.2.1 55 = .ok (.bipush 48, 2) by decide +kernel) rfl ?_
          refine x_isub (pc := 57) (show decode mX8_figures.2.1 57 = .ok (.isub, 1) by decide +kernel) ?_
          refine x_istore_n (pc := 58) (ls' := [some (.inr (.inr 0)), some (.inl x1), some (.inl (((10 * x2) + r10) - 48))]) (show decode mX8_figures.2.1 58 = .ok (.istore_n 2, 1) by decide +kernel) rfl (by decide) rfl ?_
          refine x_aload_n (pc := 59) (show decode mX8_figures.2.1 59 = .ok (.aload_n 0, 1) by decide +kernel) rfl rfl ?_
          refine x_dup (pc := 60) (show decode mX8_figures.2.1 60 = .ok (.dup, 1) by decide +kernel) rfl ?_
          refine x_getI (pc := 61) (ki := 24) f8_233 rfl rfl (by decide) rfl (show decode mX8_figures.2.1 61 = .ok (.getfield 233, 3) by decide +kernel) ?_
          refine x_iconst (pc := 64) (n := 1) (show decode mX8_figures.2.1 64 = .ok (.iconst 1, 1) by decide +kernel) ?_
          refine x_iadd (pc := 65) (show decode mX8_figures.2.1 65 = .ok (.iadd, 1) by decide +kernel) ?_
          refine x_putI (pc := 66) (ki := 24) f8_233 fp8_24 rfl rfl rfl (show decode mX8_figures.2.1 66 = .ok (.putfield 233, 3) by decide +kernel) ?_
          refine x_goto (pc := 69) (tgt := 11) (show decode mX8_figures.2.1 69 = .ok (.goto (-58), 3) by decide +kernel) (by decide) ?_
          exact hR
set_option maxRecDepth 4000 in
theorem sg_X8_word_0 {d : Nat} {x1 x2 : Int} {h : xH} {Q : Int → xH → Prop}
    (hR : (inI (h 0 25)) ∧ ((h 0 25) < 0 → gI wdM d mX8_word 14 [some (.inr (.inr 0)), some (.inl x1), some (.inl x2), some (.inl (h 0 24)), none, none, none] h Q) ∧ (0 ≤ (h 0 25) → Q 0 h)) :
    gI wdM d mX8_word 0 [some (.inr (.inr 0)), some (.inl x1), some (.inl x2), none, none, none, none] h Q := by
  unfold gI
  refine x_aload_n (pc := 0) (show decode mX8_word.2.1 0 = .ok (.aload_n 0, 1) by decide +kernel) rfl rfl ?_
  refine x_getI (pc := 1) (ki := 25) f8_236 rfl rfl (by decide) rfl (show decode mX8_word.2.1 1 = .ok (.getfield 236, 3) by decide +kernel) ?_
  obtain ⟨hg, hR⟩ := hR
  refine x_if_lt (pc := 4) (tgt := 9) (show decode mX8_word.2.1 4 = .ok (.ifCond .lt 5, 3) by decide +kernel) (by decide) hg (fun hc => ?_) (fun hc => ?_)
  · replace hR := hR.1 hc
    refine x_aload_n (pc := 9) (show decode mX8_word.2.1 9 = .ok (.aload_n 0, 1) by decide +kernel) rfl rfl ?_
    refine x_getI (pc := 10) (ki := 24) f8_233 rfl rfl (by decide) rfl (show decode mX8_word.2.1 10 = .ok (.getfield 233, 3) by decide +kernel) ?_
    refine x_istore_n (pc := 13) (ls' := [some (.inr (.inr 0)), some (.inl x1), some (.inl x2), some (.inl (h 0 24)), none, none, none]) (show decode mX8_word.2.1 13 = .ok (.istore_n 3, 1) by decide +kernel) rfl (by decide) rfl ?_
    exact hR
  · replace hR := hR.2 hc
    refine x_iconst (pc := 7) (n := 0) (show decode mX8_word.2.1 7 = .ok (.iconst 0, 1) by decide +kernel) ?_
    exact x_iret (pc := 8) rfl (show decode mX8_word.2.1 8 = .ok (.ireturn, 1) by decide +kernel) ⟨_, rfl, hR⟩
set_option maxRecDepth 4000 in
theorem sg_X8_word_14 {d : Nat} {x1 x2 x3 : Int} {h : xH} {Q : Int → xH → Prop} (hd : 1 ≤ d)
    (hR : cI wdM (d - 1) mX8_here [.inr (.inr 0)] h (fun r2 h1 => (inI r2) ∧ (r2 < 97 → gI wdM d mX8_word 51 [some (.inr (.inr 0)), some (.inl x1), some (.inl x2), some (.inl x3), some (.inl 0), some (.inl 0), none] h1 Q) ∧ (97 ≤ r2 → cI wdM (d - 1) mX8_here [.inr (.inr 0)] h1 (fun r4 h3 => (inI r4) ∧ (122 < r4 → gI wdM d mX8_word 51 [some (.inr (.inr 0)), some (.inl x1), some (.inl x2), some (.inl x3), some (.inl 0), some (.inl 0), none] h3 Q) ∧ (r4 ≤ 122 → gI wdM d mX8_word 14 [some (.inr (.inr 0)), some (.inl x1), some (.inl x2), some (.inl x3), none, none, none] (xu h3 0 24 ((h3 0 24) + 1)) Q))))) :
    gI wdM d mX8_word 14 [some (.inr (.inr 0)), some (.inl x1), some (.inl x2), some (.inl x3), none, none, none] h Q := by
  unfold gI
  refine x_aload_n (pc := 14) (show decode mX8_word.2.1 14 = .ok (.aload_n 0, 1) by decide +kernel) rfl rfl ?_
  refine x_callV (pc := 15) (As := []) (rest := []) (lk8_239 rfl) im_X8_here sl_X8_here rfl rfl rfl (Nat.le_of_ble_eq_true rfl) (Nat.le_of_ble_eq_true rfl) (show decode mX8_word.2.1 15 = .ok (.invokevirtual 239, 3) by decide +kernel) hd hR (fun r9 h1 hq => ?_)
  obtain ⟨r2, rfl, hR⟩ := hq
  show xG _ _ _ 18 _ [.inl r2] _ _
  refine x_bipush (pc := 18) (n := 97) (show decode mX8_word.2.1 18 = .ok (.bipush 97, 2) by decide +kernel) rfl ?_
  obtain ⟨hg, hR⟩ := hR
  refine x_icmp_lt (pc := 20) (tgt := 45) (show decode mX8_word.2.1 20 = .ok (.if_icmp .lt 25, 3) by decide +kernel) (by decide) ⟨hg, (by unfold inI; decide)⟩ (fun hc => ?_) (fun hc => ?_)
  · replace hR := hR.1 hc
    refine x_iconst (pc := 45) (n := 0) (show decode mX8_word.2.1 45 = .ok (.iconst 0, 1) by decide +kernel) ?_
    refine x_istore (pc := 46) (ls' := [some (.inr (.inr 0)), some (.inl x1), some (.inl x2), some (.inl x3), some (.inl 0), none, none]) (show decode mX8_word.2.1 46 = .ok (.istore 4, 2) by decide +kernel) (by decide) rfl ?_
    refine x_iconst (pc := 48) (n := 0) (show decode mX8_word.2.1 48 = .ok (.iconst 0, 1) by decide +kernel) ?_
    refine x_istore (pc := 49) (ls' := [some (.inr (.inr 0)), some (.inl x1), some (.inl x2), some (.inl x3), some (.inl 0), some (.inl 0), none]) (show decode mX8_word.2.1 49 = .ok (.istore 5, 2) by decide +kernel) (by decide) rfl ?_
    exact hR
  · replace hR := hR.2 hc
    refine x_aload_n (pc := 23) (show decode mX8_word.2.1 23 = .ok (.aload_n 0, 1) by decide +kernel) rfl rfl ?_
    refine x_callV (pc := 24) (As := []) (rest := []) (lk8_239 rfl) im_X8_here sl_X8_here rfl rfl rfl (Nat.le_of_ble_eq_true rfl) (Nat.le_of_ble_eq_true rfl) (show decode mX8_word.2.1 24 = .ok (.invokevirtual 239, 3) by decide +kernel) hd hR (fun r9 h3 hq => ?_)
    obtain ⟨r4, rfl, hR⟩ := hq
    show xG _ _ _ 27 _ [.inl r4] _ _
    refine x_bipush (pc := 27) (n := 122) (show decode mX8_word.2.1 27 = .ok (.bipush 122, 2) by decide +kernel) rfl ?_
    obtain ⟨hg, hR⟩ := hR
    refine x_icmp_gt (pc := 29) (tgt := 45) (show decode mX8_word.2.1 29 = .ok (.if_icmp .gt 16, 3) by decide +kernel) (by decide) ⟨hg, (by unfold inI; decide)⟩ (fun hc => ?_) (fun hc => ?_)
    · replace hR := hR.1 hc
      refine x_iconst (pc := 45) (n := 0) (show decode mX8_word.2.1 45 = .ok (.iconst 0, 1) by decide +kernel) ?_
      refine x_istore (pc := 46) (ls' := [some (.inr (.inr 0)), some (.inl x1), some (.inl x2), some (.inl x3), some (.inl 0), none, none]) (show decode mX8_word.2.1 46 = .ok (.istore 4, 2) by decide +kernel) (by decide) rfl ?_
      refine x_iconst (pc := 48) (n := 0) (show decode mX8_word.2.1 48 = .ok (.iconst 0, 1) by decide +kernel) ?_
      refine x_istore (pc := 49) (ls' := [some (.inr (.inr 0)), some (.inl x1), some (.inl x2), some (.inl x3), some (.inl 0), some (.inl 0), none]) (show decode mX8_word.2.1 49 = .ok (.istore 5, 2) by decide +kernel) (by decide) rfl ?_
      exact hR
    · replace hR := hR.2 hc
      refine x_aload_n (pc := 32) (show decode mX8_word.2.1 32 = .ok (.aload_n 0, 1) by decide +kernel) rfl rfl ?_
      refine x_dup (pc := 33) (show decode mX8_word.2.1 33 = .ok (.dup, 1) by decide +kernel) rfl ?_
      refine x_getI (pc := 34) (ki := 24) f8_233 rfl rfl (by decide) rfl (show decode mX8_word.2.1 34 = .ok (.getfield 233, 3) by decide +kernel) ?_
      refine x_iconst (pc := 37) (n := 1) (show decode mX8_word.2.1 37 = .ok (.iconst 1, 1) by decide +kernel) ?_
      refine x_iadd (pc := 38) (show decode mX8_word.2.1 38 = .ok (.iadd, 1) by decide +kernel) ?_
      refine x_putI (pc := 39) (ki := 24) f8_233 fp8_24 rfl rfl rfl (show decode mX8_word.2.1 39 = .ok (.putfield 233, 3) by decide +kernel) ?_
      refine x_goto (pc := 42) (tgt := 14) (show decode mX8_word.2.1 42 = .ok (.goto (-28), 3) by decide +kernel) (by decide) ?_
      exact hR
set_option maxRecDepth 4000 in
theorem sg_X8_word_51 {d : Nat} {x1 x2 x3 x4 x5 : Int} {h : xH} {Q : Int → xH → Prop} (hd : 1 ≤ d)
    (hR : (inI x5 ∧ inI x2) ∧ (x2 < x5 → cV wdM (d - 1) mX8_fails [.inr (.inr 0), .inl x3] h (fun h1 => Q 0 h1)) ∧ (x5 ≤ x2 → gI wdM d mX8_word 60 [some (.inr (.inr 0)), some (.inl x1), some (.inl x2), some (.inl x3), some (.inl x4), some (.inl x5), some (.inl 0)] h Q)) :
    gI wdM d mX8_word 51 [some (.inr (.inr 0)), some (.inl x1), some (.inl x2), some (.inl x3), some (.inl x4), some (.inl x5), none] h Q := by
  unfold gI
  refine x_iload (pc := 51) (show decode mX8_word.2.1 51 = .ok (.iload 5, 2) by decide +kernel) rfl ?_
  refine x_iload_n (pc := 53) (show decode mX8_word.2.1 53 = .ok (.iload_n 2, 1) by decide +kernel) rfl rfl ?_
  obtain ⟨hg, hR⟩ := hR
  refine x_icmp_gt (pc := 54) (tgt := 170) (show decode mX8_word.2.1 54 = .ok (.if_icmp .gt 116, 3) by decide +kernel) (by decide) ⟨hg.1, hg.2⟩ (fun hc => ?_) (fun hc => ?_)
  · replace hR := hR.1 hc
    refine x_aload_n (pc := 170) (show decode mX8_word.2.1 170 = .ok (.aload_n 0, 1) by decide +kernel) rfl rfl ?_
    refine x_iload_n (pc := 171) (show decode mX8_word.2.1 171 = .ok (.iload_n 3, 1) by decide +kernel) rfl rfl ?_
    refine x_callV (pc := 172) (As := [.inl x3]) (rest := []) (lk8_243 rfl) im_X8_fails sl_X8_fails rfl rfl rfl (Nat.le_of_ble_eq_true rfl) (Nat.le_of_ble_eq_true rfl) (show decode mX8_word.2.1 172 = .ok (.invokevirtual 243, 3) by decide +kernel) hd hR (fun r9 h1 hq => ?_)
    obtain ⟨rfl, hR⟩ := hq
    show xG _ _ _ 175 _ [] _ _
    refine x_iconst (pc := 175) (n := 0) (show decode mX8_word.2.1 175 = .ok (.iconst 0, 1) by decide +kernel) ?_
    exact x_iret (pc := 176) rfl (show decode mX8_word.2.1 176 = .ok (.ireturn, 1) by decide +kernel) ⟨_, rfl, hR⟩
  · replace hR := hR.2 hc
    refine x_iconst (pc := 57) (n := 0) (show decode mX8_word.2.1 57 = .ok (.iconst 0, 1) by decide +kernel) ?_
    refine x_istore (pc := 58) (ls' := [some (.inr (.inr 0)), some (.inl x1), some (.inl x2), some (.inl x3), some (.inl x4), some (.inl x5), some (.inl 0)]) (show decode mX8_word.2.1 58 = .ok (.istore 6, 2) by decide +kernel) (by decide) rfl ?_
    exact hR
set_option maxRecDepth 4000 in
theorem sg_X8_word_60 {d : Nat} {x1 x2 x3 x4 x5 x6 : Int} {h : xH} {Q : Int → xH → Prop}
    (hR : (0 ≤ (x4 + x6) ∧ (x4 + x6) < 49) ∧ (inI (h 20 (x4 + x6))) ∧ ((h 20 (x4 + x6)) = 0 → (inI x5 ∧ inI x1) ∧ (x5 < x1 → gI wdM d mX8_word 145 [some (.inr (.inr 0)), some (.inl x1), some (.inl x2), some (.inl x3), some (.inl x4), some (.inl x5), none] h Q) ∧ (x1 ≤ x5 → (0 ≤ (x4 + x6) ∧ (x4 + x6) < 49) ∧ (inI (h 20 (x4 + x6))) ∧ (¬ (h 20 (x4 + x6)) = 0 → gI wdM d mX8_word 145 [some (.inr (.inr 0)), some (.inl x1), some (.inl x2), some (.inl x3), some (.inl x4), some (.inl x5), none] h Q) ∧ ((h 20 (x4 + x6)) = 0 → (inI (x3 + x6) ∧ inI (h 0 24)) ∧ (¬ (x3 + x6) = (h 0 24) → gI wdM d mX8_word 145 [some (.inr (.inr 0)), some (.inl x1), some (.inl x2), some (.inl x3), some (.inl x4), some (.inl x5), none] h Q) ∧ ((x3 + x6) = (h 0 24) → Q x5 h)))) ∧ (¬ (h 20 (x4 + x6)) = 0 → (inI (x3 + x6) ∧ inI (h 0 24)) ∧ ((h 0 24) ≤ (x3 + x6) → (inI x5 ∧ inI x1) ∧ (x5 < x1 → gI wdM d mX8_word 145 [some (.inr (.inr 0)), some (.inl x1), some (.inl x2), some (.inl x3), some (.inl x4), some (.inl x5), none] h Q) ∧ (x1 ≤ x5 → (0 ≤ (x4 + x6) ∧ (x4 + x6) < 49) ∧ (inI (h 20 (x4 + x6))) ∧ (¬ (h 20 (x4 + x6)) = 0 → gI wdM d mX8_word 145 [some (.inr (.inr 0)), some (.inl x1), some (.inl x2), some (.inl x3), some (.inl x4), some (.inl x5), none] h Q) ∧ ((h 20 (x4 + x6)) = 0 → (inI (x3 + x6) ∧ inI (h 0 24)) ∧ (¬ (x3 + x6) = (h 0 24) → gI wdM d mX8_word 145 [some (.inr (.inr 0)), some (.inl x1), some (.inl x2), some (.inl x3), some (.inl x4), some (.inl x5), none] h Q) ∧ ((x3 + x6) = (h 0 24) → Q x5 h)))) ∧ ((x3 + x6) < (h 0 24) → (0 ≤ (x3 + x6) ∧ (x3 + x6) < 120) ∧ (0 ≤ (x4 + x6) ∧ (x4 + x6) < 49) ∧ (inI (h 14 (x3 + x6)) ∧ inI (h 20 (x4 + x6))) ∧ (¬ (h 14 (x3 + x6)) = (h 20 (x4 + x6)) → (inI x5 ∧ inI x1) ∧ (x5 < x1 → gI wdM d mX8_word 145 [some (.inr (.inr 0)), some (.inl x1), some (.inl x2), some (.inl x3), some (.inl x4), some (.inl x5), none] h Q) ∧ (x1 ≤ x5 → (0 ≤ (x4 + x6) ∧ (x4 + x6) < 49) ∧ (inI (h 20 (x4 + x6))) ∧ (¬ (h 20 (x4 + x6)) = 0 → gI wdM d mX8_word 145 [some (.inr (.inr 0)), some (.inl x1), some (.inl x2), some (.inl x3), some (.inl x4), some (.inl x5), none] h Q) ∧ ((h 20 (x4 + x6)) = 0 → (inI (x3 + x6) ∧ inI (h 0 24)) ∧ (¬ (x3 + x6) = (h 0 24) → gI wdM d mX8_word 145 [some (.inr (.inr 0)), some (.inl x1), some (.inl x2), some (.inl x3), some (.inl x4), some (.inl x5), none] h Q) ∧ ((x3 + x6) = (h 0 24) → Q x5 h)))) ∧ ((h 14 (x3 + x6)) = (h 20 (x4 + x6)) → gI wdM d mX8_word 60 [some (.inr (.inr 0)), some (.inl x1), some (.inl x2), some (.inl x3), some (.inl x4), some (.inl x5), some (.inl (x6 + 1))] h Q)))) :
    gI wdM d mX8_word 60 [some (.inr (.inr 0)), some (.inl x1), some (.inl x2), some (.inl x3), some (.inl x4), some (.inl x5), some (.inl x6)] h Q := by
  unfold gI
  refine x_aload_n (pc := 60) (show decode mX8_word.2.1 60 = .ok (.aload_n 0, 1) by decide +kernel) rfl rfl ?_
  refine x_getR (pc := 61) f8_71 rfl rfl (show decode mX8_word.2.1 61 = .ok (.getfield 71, 3) by decide +kernel) ?_
  refine x_iload (pc := 64) (show decode mX8_word.2.1 64 = .ok (.iload 4, 2) by decide +kernel) rfl ?_
  refine x_iload (pc := 66) (show decode mX8_word.2.1 66 = .ok (.iload 6, 2) by decide +kernel) rfl ?_
  refine x_iadd (pc := 68) (show decode mX8_word.2.1 68 = .ok (.iadd, 1) by decide +kernel) ?_
  obtain ⟨hg, hR⟩ := hR
  refine x_cald (pc := 69) rfl (by decide) hg (show decode mX8_word.2.1 69 = .ok (.caload, 1) by decide +kernel) ?_
  obtain ⟨hg, hR⟩ := hR
  refine x_if_eq (pc := 70) (tgt := 112) (show decode mX8_word.2.1 70 = .ok (.ifCond .eq 42, 3) by decide +kernel) (by decide) hg (fun hc => ?_) (fun hc => ?_)
  · replace hR := hR.1 hc
    refine x_iload (pc := 112) (show decode mX8_word.2.1 112 = .ok (.iload 5, 2) by decide +kernel) rfl ?_
    refine x_iload_n (pc := 114) (show decode mX8_word.2.1 114 = .ok (.iload_n 1, 1) by decide +kernel) rfl rfl ?_
    obtain ⟨hg, hR⟩ := hR
    refine x_icmp_lt (pc := 115) (tgt := 145) (show decode mX8_word.2.1 115 = .ok (.if_icmp .lt 30, 3) by decide +kernel) (by decide) ⟨hg.1, hg.2⟩ (fun hc => ?_) (fun hc => ?_)
    · replace hR := hR.1 hc
      exact x_weak (xle_get (by repeat' constructor)) hR
    · replace hR := hR.2 hc
      refine x_aload_n (pc := 118) (show decode mX8_word.2.1 118 = .ok (.aload_n 0, 1) by decide +kernel) rfl rfl ?_
      refine x_getR (pc := 119) f8_71 rfl rfl (show decode mX8_word.2.1 119 = .ok (.getfield 71, 3) by decide +kernel) ?_
      refine x_iload (pc := 122) (show decode mX8_word.2.1 122 = .ok (.iload 4, 2) by decide +kernel) rfl ?_
      refine x_iload (pc := 124) (show decode mX8_word.2.1 124 = .ok (.iload 6, 2) by decide +kernel) rfl ?_
      refine x_iadd (pc := 126) (show decode mX8_word.2.1 126 = .ok (.iadd, 1) by decide +kernel) ?_
      obtain ⟨hg, hR⟩ := hR
      refine x_cald (pc := 127) rfl (by decide) hg (show decode mX8_word.2.1 127 = .ok (.caload, 1) by decide +kernel) ?_
      obtain ⟨hg, hR⟩ := hR
      refine x_if_ne (pc := 128) (tgt := 145) (show decode mX8_word.2.1 128 = .ok (.ifCond .ne 17, 3) by decide +kernel) (by decide) hg (fun hc => ?_) (fun hc => ?_)
      · replace hR := hR.1 hc
        exact x_weak (xle_get (by repeat' constructor)) hR
      · replace hR := hR.2 hc
        refine x_iload_n (pc := 131) (show decode mX8_word.2.1 131 = .ok (.iload_n 3, 1) by decide +kernel) rfl rfl ?_
        refine x_iload (pc := 132) (show decode mX8_word.2.1 132 = .ok (.iload 6, 2) by decide +kernel) rfl ?_
        refine x_iadd (pc := 134) (show decode mX8_word.2.1 134 = .ok (.iadd, 1) by decide +kernel) ?_
        refine x_aload_n (pc := 135) (show decode mX8_word.2.1 135 = .ok (.aload_n 0, 1) by decide +kernel) rfl rfl ?_
        refine x_getI (pc := 136) (ki := 24) f8_233 rfl rfl (by decide) rfl (show decode mX8_word.2.1 136 = .ok (.getfield 233, 3) by decide +kernel) ?_
        obtain ⟨hg, hR⟩ := hR
        refine x_icmp_ne (pc := 139) (tgt := 145) (show decode mX8_word.2.1 139 = .ok (.if_icmp .ne 6, 3) by decide +kernel) (by decide) ⟨hg.1, hg.2⟩ (fun hc => ?_) (fun hc => ?_)
        · replace hR := hR.1 hc
          exact x_weak (xle_get (by repeat' constructor)) hR
        · replace hR := hR.2 hc
          refine x_iload (pc := 142) (show decode mX8_word.2.1 142 = .ok (.iload 5, 2) by decide +kernel) rfl ?_
          exact x_iret (pc := 144) rfl (show decode mX8_word.2.1 144 = .ok (.ireturn, 1) by decide +kernel) ⟨_, rfl, hR⟩
  · replace hR := hR.2 hc
    refine x_iload_n (pc := 73) (show decode mX8_word.2.1 73 = .ok (.iload_n 3, 1) by decide +kernel) rfl rfl ?_
    refine x_iload (pc := 74) (show decode mX8_word.2.1 74 = .ok (.iload 6, 2) by decide +kernel) rfl ?_
    refine x_iadd (pc := 76) (show decode mX8_word.2.1 76 = .ok (.iadd, 1) by decide +kernel) ?_
    refine x_aload_n (pc := 77) (show decode mX8_word.2.1 77 = .ok (.aload_n 0, 1) by decide +kernel) rfl rfl ?_
    refine x_getI (pc := 78) (ki := 24) f8_233 rfl rfl (by decide) rfl (show decode mX8_word.2.1 78 = .ok (.getfield 233, 3) by decide +kernel) ?_
    obtain ⟨hg, hR⟩ := hR
    refine x_icmp_ge (pc := 81) (tgt := 112) (show decode mX8_word.2.1 81 = .ok (.if_icmp .ge 31, 3) by decide +kernel) (by decide) ⟨hg.1, hg.2⟩ (fun hc => ?_) (fun hc => ?_)
    · replace hR := hR.1 hc
      refine x_iload (pc := 112) (show decode mX8_word.2.1 112 = .ok (.iload 5, 2) by decide +kernel) rfl ?_
      refine x_iload_n (pc := 114) (show decode mX8_word.2.1 114 = .ok (.iload_n 1, 1) by decide +kernel) rfl rfl ?_
      obtain ⟨hg, hR⟩ := hR
      refine x_icmp_lt (pc := 115) (tgt := 145) (show decode mX8_word.2.1 115 = .ok (.if_icmp .lt 30, 3) by decide +kernel) (by decide) ⟨hg.1, hg.2⟩ (fun hc => ?_) (fun hc => ?_)
      · replace hR := hR.1 hc
        exact x_weak (xle_get (by repeat' constructor)) hR
      · replace hR := hR.2 hc
        refine x_aload_n (pc := 118) (show decode mX8_word.2.1 118 = .ok (.aload_n 0, 1) by decide +kernel) rfl rfl ?_
        refine x_getR (pc := 119) f8_71 rfl rfl (show decode mX8_word.2.1 119 = .ok (.getfield 71, 3) by decide +kernel) ?_
        refine x_iload (pc := 122) (show decode mX8_word.2.1 122 = .ok (.iload 4, 2) by decide +kernel) rfl ?_
        refine x_iload (pc := 124) (show decode mX8_word.2.1 124 = .ok (.iload 6, 2) by decide +kernel) rfl ?_
        refine x_iadd (pc := 126) (show decode mX8_word.2.1 126 = .ok (.iadd, 1) by decide +kernel) ?_
        obtain ⟨hg, hR⟩ := hR
        refine x_cald (pc := 127) rfl (by decide) hg (show decode mX8_word.2.1 127 = .ok (.caload, 1) by decide +kernel) ?_
        obtain ⟨hg, hR⟩ := hR
        refine x_if_ne (pc := 128) (tgt := 145) (show decode mX8_word.2.1 128 = .ok (.ifCond .ne 17, 3) by decide +kernel) (by decide) hg (fun hc => ?_) (fun hc => ?_)
        · replace hR := hR.1 hc
          exact x_weak (xle_get (by repeat' constructor)) hR
        · replace hR := hR.2 hc
          refine x_iload_n (pc := 131) (show decode mX8_word.2.1 131 = .ok (.iload_n 3, 1) by decide +kernel) rfl rfl ?_
          refine x_iload (pc := 132) (show decode mX8_word.2.1 132 = .ok (.iload 6, 2) by decide +kernel) rfl ?_
          refine x_iadd (pc := 134) (show decode mX8_word.2.1 134 = .ok (.iadd, 1) by decide +kernel) ?_
          refine x_aload_n (pc := 135) (show decode mX8_word.2.1 135 = .ok (.aload_n 0, 1) by decide +kernel) rfl rfl ?_
          refine x_getI (pc := 136) (ki := 24) f8_233 rfl rfl (by decide) rfl (show decode mX8_word.2.1 136 = .ok (.getfield 233, 3) by decide +kernel) ?_
          obtain ⟨hg, hR⟩ := hR
          refine x_icmp_ne (pc := 139) (tgt := 145) (show decode mX8_word.2.1 139 = .ok (.if_icmp .ne 6, 3) by decide +kernel) (by decide) ⟨hg.1, hg.2⟩ (fun hc => ?_) (fun hc => ?_)
          · replace hR := hR.1 hc
            exact x_weak (xle_get (by repeat' constructor)) hR
          · replace hR := hR.2 hc
            refine x_iload (pc := 142) (show decode mX8_word.2.1 142 = .ok (.iload 5, 2) by decide +kernel) rfl ?_
            exact x_iret (pc := 144) rfl (show decode mX8_word.2.1 144 = .ok (.ireturn, 1) by decide +kernel) ⟨_, rfl, hR⟩
    · replace hR := hR.2 hc
      refine x_aload_n (pc := 84) (show decode mX8_word.2.1 84 = .ok (.aload_n 0, 1) by decide +kernel) rfl rfl ?_
      refine x_getR (pc := 85) f8_53 rfl rfl (show decode mX8_word.2.1 85 = .ok (.getfield 53, 3) by decide +kernel) ?_
      refine x_iload_n (pc := 88) (show decode mX8_word.2.1 88 = .ok (.iload_n 3, 1) by decide +kernel) rfl rfl ?_
      refine x_iload (pc := 89) (show decode mX8_word.2.1 89 = .ok (.iload 6, 2) by decide +kernel) rfl ?_
      refine x_iadd (pc := 91) (show decode mX8_word.2.1 91 = .ok (.iadd, 1) by decide +kernel) ?_
      obtain ⟨hg, hR⟩ := hR
      refine x_iald (pc := 92) rfl (by decide) hg (show decode mX8_word.2.1 92 = .ok (.iaload, 1) by decide +kernel) ?_
      refine x_aload_n (pc := 93) (show decode mX8_word.2.1 93 = .ok (.aload_n 0, 1) by decide +kernel) rfl rfl ?_
      refine x_getR (pc := 94) f8_71 rfl rfl (show decode mX8_word.2.1 94 = .ok (.getfield 71, 3) by decide +kernel) ?_
      refine x_iload (pc := 97) (show decode mX8_word.2.1 97 = .ok (.iload 4, 2) by decide +kernel) rfl ?_
      refine x_iload (pc := 99) (show decode mX8_word.2.1 99 = .ok (.iload 6, 2) by decide +kernel) rfl ?_
      refine x_iadd (pc := 101) (show decode mX8_word.2.1 101 = .ok (.iadd, 1) by decide +kernel) ?_
      obtain ⟨hg, hR⟩ := hR
      refine x_cald (pc := 102) rfl (by decide) hg (show decode mX8_word.2.1 102 = .ok (.caload, 1) by decide +kernel) ?_
      obtain ⟨hg, hR⟩ := hR
      refine x_icmp_ne (pc := 103) (tgt := 112) (show decode mX8_word.2.1 103 = .ok (.if_icmp .ne 9, 3) by decide +kernel) (by decide) ⟨hg.1, hg.2⟩ (fun hc => ?_) (fun hc => ?_)
      · replace hR := hR.1 hc
        refine x_iload (pc := 112) (show decode mX8_word.2.1 112 = .ok (.iload 5, 2) by decide +kernel) rfl ?_
        refine x_iload_n (pc := 114) (show decode mX8_word.2.1 114 = .ok (.iload_n 1, 1) by decide +kernel) rfl rfl ?_
        obtain ⟨hg, hR⟩ := hR
        refine x_icmp_lt (pc := 115) (tgt := 145) (show decode mX8_word.2.1 115 = .ok (.if_icmp .lt 30, 3) by decide +kernel) (by decide) ⟨hg.1, hg.2⟩ (fun hc => ?_) (fun hc => ?_)
        · replace hR := hR.1 hc
          exact x_weak (xle_get (by repeat' constructor)) hR
        · replace hR := hR.2 hc
          refine x_aload_n (pc := 118) (show decode mX8_word.2.1 118 = .ok (.aload_n 0, 1) by decide +kernel) rfl rfl ?_
          refine x_getR (pc := 119) f8_71 rfl rfl (show decode mX8_word.2.1 119 = .ok (.getfield 71, 3) by decide +kernel) ?_
          refine x_iload (pc := 122) (show decode mX8_word.2.1 122 = .ok (.iload 4, 2) by decide +kernel) rfl ?_
          refine x_iload (pc := 124) (show decode mX8_word.2.1 124 = .ok (.iload 6, 2) by decide +kernel) rfl ?_
          refine x_iadd (pc := 126) (show decode mX8_word.2.1 126 = .ok (.iadd, 1) by decide +kernel) ?_
          obtain ⟨hg, hR⟩ := hR
          refine x_cald (pc := 127) rfl (by decide) hg (show decode mX8_word.2.1 127 = .ok (.caload, 1) by decide +kernel) ?_
          obtain ⟨hg, hR⟩ := hR
          refine x_if_ne (pc := 128) (tgt := 145) (show decode mX8_word.2.1 128 = .ok (.ifCond .ne 17, 3) by decide +kernel) (by decide) hg (fun hc => ?_) (fun hc => ?_)
          · replace hR := hR.1 hc
            exact x_weak (xle_get (by repeat' constructor)) hR
          · replace hR := hR.2 hc
            refine x_iload_n (pc := 131) (show decode mX8_word.2.1 131 = .ok (.iload_n 3, 1) by decide +kernel) rfl rfl ?_
            refine x_iload (pc := 132) (show decode mX8_word.2.1 132 = .ok (.iload 6, 2) by decide +kernel) rfl ?_
            refine x_iadd (pc := 134) (show decode mX8_word.2.1 134 = .ok (.iadd, 1) by decide +kernel) ?_
            refine x_aload_n (pc := 135) (show decode mX8_word.2.1 135 = .ok (.aload_n 0, 1) by decide +kernel) rfl rfl ?_
            refine x_getI (pc := 136) (ki := 24) f8_233 rfl rfl (by decide) rfl (show decode mX8_word.2.1 136 = .ok (.getfield 233, 3) by decide +kernel) ?_
            obtain ⟨hg, hR⟩ := hR
            refine x_icmp_ne (pc := 139) (tgt := 145) (show decode mX8_word.2.1 139 = .ok (.if_icmp .ne 6, 3) by decide +kernel) (by decide) ⟨hg.1, hg.2⟩ (fun hc => ?_) (fun hc => ?_)
            · replace hR := hR.1 hc
              exact x_weak (xle_get (by repeat' constructor)) hR
            · replace hR := hR.2 hc
              refine x_iload (pc := 142) (show decode mX8_word.2.1 142 = .ok (.iload 5, 2) by decide +kernel) rfl ?_
              exact x_iret (pc := 144) rfl (show decode mX8_word.2.1 144 = .ok (.ireturn, 1) by decide +kernel) ⟨_, rfl, hR⟩
      · replace hR := hR.2 hc
        refine x_iinc (pc := 106) (ls' := [some (.inr (.inr 0)), some (.inl x1), some (.inl x2), some (.inl x3), some (.inl x4), some (.inl x5), some (.inl (x6 + 1))]) (show decode mX8_word.2.1 106 = .ok (.iinc 6 1, 3) by decide +kernel) (by decide) rfl rfl ?_
        refine x_goto (pc := 109) (tgt := 60) (show decode mX8_word.2.1 109 = .ok (.goto (-49), 3) by decide +kernel) (by decide) ?_
        exact hR
set_option maxRecDepth 4000 in
theorem sg_X8_word_145 {d : Nat} {x1 x2 x3 x4 x5 : Int} {h : xH} {Q : Int → xH → Prop}
    (hR : (0 ≤ x4 ∧ x4 < 49) ∧ (inI (h 20 x4)) ∧ ((h 20 x4) = 0 → gI wdM d mX8_word 51 [some (.inr (.inr 0)), some (.inl x1), some (.inl x2), some (.inl x3), some (.inl (x4 + 1)), some (.inl (x5 + 1)), none] h Q) ∧ (¬ (h 20 x4) = 0 → gI wdM d mX8_word 145 [some (.inr (.inr 0)), some (.inl x1), some (.inl x2), some (.inl x3), some (.inl (x4 + 1)), some (.inl x5), none] h Q)) :
    gI wdM d mX8_word 145 [some (.inr (.inr 0)), some (.inl x1), some (.inl x2), some (.inl x3), some (.inl x4), some (.inl x5), none] h Q := by
  unfold gI
  refine x_aload_n (pc := 145) (show decode mX8_word.2.1 145 = .ok (.aload_n 0, 1) by decide +kernel) rfl rfl ?_
  refine x_getR (pc := 146) f8_71 rfl rfl (show decode mX8_word.2.1 146 = .ok (.getfield 71, 3) by decide +kernel) ?_
  refine x_iload (pc := 149) (show decode mX8_word.2.1 149 = .ok (.iload 4, 2) by decide +kernel) rfl ?_
  obtain ⟨hg, hR⟩ := hR
  refine x_cald (pc := 151) rfl (by decide) hg (show decode mX8_word.2.1 151 = .ok (.caload, 1) by decide +kernel) ?_
  obtain ⟨hg, hR⟩ := hR
  refine x_if_eq (pc := 152) (tgt := 161) (show decode mX8_word.2.1 152 = .ok (.ifCond .eq 9, 3) by decide +kernel) (by decide) hg (fun hc => ?_) (fun hc => ?_)
  · replace hR := hR.1 hc
    refine x_iinc (pc := 161) (ls' := [some (.inr (.inr 0)), some (.inl x1), some (.inl x2), some (.inl x3), some (.inl (x4 + 1)), some (.inl x5), none]) (show decode mX8_word.2.1 161 = .ok (.iinc 4 1, 3) by decide +kernel) (by decide) rfl rfl ?_
    refine x_iinc (pc := 164) (ls' := [some (.inr (.inr 0)), some (.inl x1), some (.inl x2), some (.inl x3), some (.inl (x4 + 1)), some (.inl (x5 + 1)), none]) (show decode mX8_word.2.1 164 = .ok (.iinc 5 1, 3) by decide +kernel) (by decide) rfl rfl ?_
    refine x_goto (pc := 167) (tgt := 51) (show decode mX8_word.2.1 167 = .ok (.goto (-116), 3) by decide +kernel) (by decide) ?_
    exact hR
  · replace hR := hR.2 hc
    refine x_iinc (pc := 155) (ls' := [some (.inr (.inr 0)), some (.inl x1), some (.inl x2), some (.inl x3), some (.inl (x4 + 1)), some (.inl x5), none]) (show decode mX8_word.2.1 155 = .ok (.iinc 4 1, 3) by decide +kernel) (by decide) rfl rfl ?_
    refine x_goto (pc := 158) (tgt := 145) (show decode mX8_word.2.1 158 = .ok (.goto (-13), 3) by decide +kernel) (by decide) ?_
    exact hR
set_option maxRecDepth 4000 in
theorem sg_X8_reads_0 {d : Nat} {x1 : Int} {h : xH} {Q : xH → Prop} (hd : 1 ≤ d)
    (hR : cI wdM (d - 1) mX8_word [.inr (.inr 0), .inl 0, .inl 3] h (fun r2 h1 => (0 ≤ x1 ∧ x1 < 80) ∧ (inI (h1 0 25)) ∧ (0 ≤ (h1 0 25) → (0 ≤ (x1 + 1) ∧ (x1 + 1) < 80) ∧ (inI r2) ∧ (2 ≤ r2 → (inI r2) ∧ (¬ r2 = 0 → Q (xu (xu h1 16 x1 r2) 16 (x1 + 1) 0)) ∧ (r2 = 0 → (inI (h1 0 25)) ∧ (0 ≤ (h1 0 25) → Q (xu (xu h1 16 x1 r2) 16 (x1 + 1) 0)) ∧ ((h1 0 25) < 0 → cV wdM (d - 1) mX8_blank [.inr (.inr 0)] (xu (xu h1 16 x1 r2) 16 (x1 + 1) 0) (fun h3 => cI wdM (d - 1) mX8_word [.inr (.inr 0), .inl 4, .inl 8] h3 (fun r5 h4 => (0 ≤ (x1 + 3) ∧ (x1 + 3) < 80) ∧ Q (xu h4 16 (x1 + 3) (r5 - 4))))))) ∧ (r2 < 2 → (inI (h1 0 25)) ∧ (0 ≤ (h1 0 25) → (inI r2) ∧ (¬ r2 = 0 → Q (xu (xu h1 16 x1 r2) 16 (x1 + 1) 0)) ∧ (r2 = 0 → (inI (h1 0 25)) ∧ (0 ≤ (h1 0 25) → Q (xu (xu h1 16 x1 r2) 16 (x1 + 1) 0)) ∧ ((h1 0 25) < 0 → cV wdM (d - 1) mX8_blank [.inr (.inr 0)] (xu (xu h1 16 x1 r2) 16 (x1 + 1) 0) (fun h6 => cI wdM (d - 1) mX8_word [.inr (.inr 0), .inl 4, .inl 8] h6 (fun r8 h7 => (0 ≤ (x1 + 3) ∧ (x1 + 3) < 80) ∧ Q (xu h7 16 (x1 + 3) (r8 - 4))))))) ∧ ((h1 0 25) < 0 → cI wdM (d - 1) mX8_figures [.inr (.inr 0)] (xu (xu h1 16 x1 r2) 16 (x1 + 1) 0) (fun r10 h9 => (0 ≤ (x1 + 2) ∧ (x1 + 2) < 80) ∧ (inI r2) ∧ (¬ r2 = 0 → Q (xu h9 16 (x1 + 2) r10)) ∧ (r2 = 0 → (inI (h9 0 25)) ∧ (0 ≤ (h9 0 25) → Q (xu h9 16 (x1 + 2) r10)) ∧ ((h9 0 25) < 0 → cV wdM (d - 1) mX8_blank [.inr (.inr 0)] (xu h9 16 (x1 + 2) r10) (fun h11 => cI wdM (d - 1) mX8_word [.inr (.inr 0), .inl 4, .inl 8] h11 (fun r13 h12 => (0 ≤ (x1 + 3) ∧ (x1 + 3) < 80) ∧ Q (xu h12 16 (x1 + 3) (r13 - 4)))))))))) ∧ ((h1 0 25) < 0 → cI wdM (d - 1) mX8_figures [.inr (.inr 0)] (xu h1 16 x1 r2) (fun r15 h14 => (0 ≤ (x1 + 1) ∧ (x1 + 1) < 80) ∧ (inI r2) ∧ (2 ≤ r2 → (inI r2) ∧ (¬ r2 = 0 → Q (xu h14 16 (x1 + 1) r15)) ∧ (r2 = 0 → (inI (h14 0 25)) ∧ (0 ≤ (h14 0 25) → Q (xu h14 16 (x1 + 1) r15)) ∧ ((h14 0 25) < 0 → cV wdM (d - 1) mX8_blank [.inr (.inr 0)] (xu h14 16 (x1 + 1) r15) (fun h16 => cI wdM (d - 1) mX8_word [.inr (.inr 0), .inl 4, .inl 8] h16 (fun r18 h17 => (0 ≤ (x1 + 3) ∧ (x1 + 3) < 80) ∧ Q (xu h17 16 (x1 + 3) (r18 - 4))))))) ∧ (r2 < 2 → (inI (h14 0 25)) ∧ (0 ≤ (h14 0 25) → (inI r2) ∧ (¬ r2 = 0 → Q (xu h14 16 (x1 + 1) r15)) ∧ (r2 = 0 → (inI (h14 0 25)) ∧ (0 ≤ (h14 0 25) → Q (xu h14 16 (x1 + 1) r15)) ∧ ((h14 0 25) < 0 → cV wdM (d - 1) mX8_blank [.inr (.inr 0)] (xu h14 16 (x1 + 1) r15) (fun h19 => cI wdM (d - 1) mX8_word [.inr (.inr 0), .inl 4, .inl 8] h19 (fun r21 h20 => (0 ≤ (x1 + 3) ∧ (x1 + 3) < 80) ∧ Q (xu h20 16 (x1 + 3) (r21 - 4))))))) ∧ ((h14 0 25) < 0 → cI wdM (d - 1) mX8_figures [.inr (.inr 0)] (xu h14 16 (x1 + 1) r15) (fun r23 h22 => (0 ≤ (x1 + 2) ∧ (x1 + 2) < 80) ∧ (inI r2) ∧ (¬ r2 = 0 → Q (xu h22 16 (x1 + 2) r23)) ∧ (r2 = 0 → (inI (h22 0 25)) ∧ (0 ≤ (h22 0 25) → Q (xu h22 16 (x1 + 2) r23)) ∧ ((h22 0 25) < 0 → cV wdM (d - 1) mX8_blank [.inr (.inr 0)] (xu h22 16 (x1 + 2) r23) (fun h24 => cI wdM (d - 1) mX8_word [.inr (.inr 0), .inl 4, .inl 8] h24 (fun r26 h25 => (0 ≤ (x1 + 3) ∧ (x1 + 3) < 80) ∧ Q (xu h25 16 (x1 + 3) (r26 - 4))))))))))))) :
    gV wdM d mX8_reads 0 [some (.inr (.inr 0)), some (.inl x1), none] h Q := by
  unfold gV
  refine x_aload_n (pc := 0) (show decode mX8_reads.2.1 0 = .ok (.aload_n 0, 1) by decide +kernel) rfl rfl ?_
  refine x_iconst (pc := 1) (n := 0) (show decode mX8_reads.2.1 1 = .ok (.iconst 0, 1) by decide +kernel) ?_
  refine x_iconst (pc := 2) (n := 3) (show decode mX8_reads.2.1 2 = .ok (.iconst 3, 1) by decide +kernel) ?_
  refine x_callV (pc := 3) (As := [.inl 0, .inl 3]) (rest := []) (lk8_249 rfl) im_X8_word sl_X8_word rfl rfl rfl (Nat.le_of_ble_eq_true rfl) (Nat.le_of_ble_eq_true rfl) (show decode mX8_reads.2.1 3 = .ok (.invokevirtual 249, 3) by decide +kernel) hd hR (fun r9 h1 hq => ?_)
  obtain ⟨r2, rfl, hR⟩ := hq
  show xG _ _ _ 6 _ [.inl r2] _ _
  refine x_istore_n (pc := 6) (ls' := [some (.inr (.inr 0)), some (.inl x1), some (.inl r2)]) (show decode mX8_reads.2.1 6 = .ok (.istore_n 2, 1) by decide +kernel) rfl (by decide) rfl ?_
  refine x_aload_n (pc := 7) (show decode mX8_reads.2.1 7 = .ok (.aload_n 0, 1) by decide +kernel) rfl rfl ?_
  refine x_getR (pc := 8) f8_59 rfl rfl (show decode mX8_reads.2.1 8 = .ok (.getfield 59, 3) by decide +kernel) ?_
  refine x_iload_n (pc := 11) (show decode mX8_reads.2.1 11 = .ok (.iload_n 1, 1) by decide +kernel) rfl rfl ?_
  refine x_iload_n (pc := 12) (show decode mX8_reads.2.1 12 = .ok (.iload_n 2, 1) by decide +kernel) rfl rfl ?_
  obtain ⟨hg, hR⟩ := hR
  refine x_iast (pc := 13) rfl (by decide) hg (show decode mX8_reads.2.1 13 = .ok (.iastore, 1) by decide +kernel) ?_
  refine x_aload_n (pc := 14) (show decode mX8_reads.2.1 14 = .ok (.aload_n 0, 1) by decide +kernel) rfl rfl ?_
  refine x_getR (pc := 15) f8_59 rfl rfl (show decode mX8_reads.2.1 15 = .ok (.getfield 59, 3) by decide +kernel) ?_
  refine x_iload_n (pc := 18) (show decode mX8_reads.2.1 18 = .ok (.iload_n 1, 1) by decide +kernel) rfl rfl ?_
  refine x_iconst (pc := 19) (n := 1) (show decode mX8_reads.2.1 19 = .ok (.iconst 1, 1) by decide +kernel) ?_
  refine x_iadd (pc := 20) (show decode mX8_reads.2.1 20 = .ok (.iadd, 1) by decide +kernel) ?_
  refine x_aload_n (pc := 21) (show decode mX8_reads.2.1 21 = .ok (.aload_n 0, 1) by decide +kernel) rfl rfl ?_
  refine x_getI (pc := 22) (ki := 25) f8_236 rfl rfl (by decide) rfl (show decode mX8_reads.2.1 22 = .ok (.getfield 236, 3) by decide +kernel) ?_
  obtain ⟨hg, hR⟩ := hR
  refine x_if_ge (pc := 25) (tgt := 35) (show decode mX8_reads.2.1 25 = .ok (.ifCond .ge 10, 3) by decide +kernel) (by decide) hg (fun hc => ?_) (fun hc => ?_)
  · replace hR := hR.1 hc
    refine x_iconst (pc := 35) (n := 0) (show decode mX8_reads.2.1 35 = .ok (.iconst 0, 1) by decide +kernel) ?_
    obtain ⟨hg, hR⟩ := hR
    refine x_iast (pc := 36) rfl (by decide) hg (show decode mX8_reads.2.1 36 = .ok (.iastore, 1) by decide +kernel) ?_
    refine x_iload_n (pc := 37) (show decode mX8_reads.2.1 37 = .ok (.iload_n 2, 1) by decide +kernel) rfl rfl ?_
    refine x_iconst (pc := 38) (n := 2) (show decode mX8_reads.2.1 38 = .ok (.iconst 2, 1) by decide +kernel) ?_
    obtain ⟨hg, hR⟩ := hR
    refine x_icmp_ge (pc := 39) (tgt := 61) (show decode mX8_reads.2.1 39 = .ok (.if_icmp .ge 22, 3) by decide +kernel) (by decide) ⟨hg, (by unfold inI; decide)⟩ (fun hc => ?_) (fun hc => ?_)
    · replace hR := hR.1 hc
      refine x_iload_n (pc := 61) (show decode mX8_reads.2.1 61 = .ok (.iload_n 2, 1) by decide +kernel) rfl rfl ?_
      obtain ⟨hg, hR⟩ := hR
      refine x_if_ne (pc := 62) (tgt := 93) (show decode mX8_reads.2.1 62 = .ok (.ifCond .ne 31, 3) by decide +kernel) (by decide) hg (fun hc => ?_) (fun hc => ?_)
      · replace hR := hR.1 hc
        exact x_vret (pc := 93) rfl (show decode mX8_reads.2.1 93 = .ok (.return_, 1) by decide +kernel) ⟨rfl, hR⟩
      · replace hR := hR.2 hc
        refine x_aload_n (pc := 65) (show decode mX8_reads.2.1 65 = .ok (.aload_n 0, 1) by decide +kernel) rfl rfl ?_
        refine x_getI (pc := 66) (ki := 25) f8_236 rfl rfl (by decide) rfl (show decode mX8_reads.2.1 66 = .ok (.getfield 236, 3) by decide +kernel) ?_
        obtain ⟨hg, hR⟩ := hR
        refine x_if_ge (pc := 69) (tgt := 93) (show decode mX8_reads.2.1 69 = .ok (.ifCond .ge 24, 3) by decide +kernel) (by decide) hg (fun hc => ?_) (fun hc => ?_)
        · replace hR := hR.1 hc
          exact x_vret (pc := 93) rfl (show decode mX8_reads.2.1 93 = .ok (.return_, 1) by decide +kernel) ⟨rfl, hR⟩
        · replace hR := hR.2 hc
          refine x_aload_n (pc := 72) (show decode mX8_reads.2.1 72 = .ok (.aload_n 0, 1) by decide +kernel) rfl rfl ?_
          refine x_callV (pc := 73) (As := []) (rest := []) (lk8_246 rfl) im_X8_blank sl_X8_blank rfl rfl rfl (Nat.le_of_ble_eq_true rfl) (Nat.le_of_ble_eq_true rfl) (show decode mX8_reads.2.1 73 = .ok (.invokevirtual 246, 3) by decide +kernel) hd hR (fun r9 h3 hq => ?_)
          obtain ⟨rfl, hR⟩ := hq
          show xG _ _ _ 76 _ [] _ _
          refine x_aload_n (pc := 76) (show decode mX8_reads.2.1 76 = .ok (.aload_n 0, 1) by decide +kernel) rfl rfl ?_
          refine x_getR (pc := 77) f8_59 rfl rfl (show decode mX8_reads.2.1 77 = .ok (.getfield 59, 3) by decide +kernel) ?_
          refine x_iload_n (pc := 80) (show decode mX8_reads.2.1 80 = .ok (.iload_n 1, 1) by decide +kernel) rfl rfl ?_
          refine x_iconst (pc := 81) (n := 3) (show decode mX8_reads.2.1 81 = .ok (.iconst 3, 1) by decide +kernel) ?_
          refine x_iadd (pc := 82) (show decode mX8_reads.2.1 82 = .ok (.iadd, 1) by decide +kernel) ?_
          refine x_aload_n (pc := 83) (show decode mX8_reads.2.1 83 = .ok (.aload_n 0, 1) by decide +kernel) rfl rfl ?_
          refine x_iconst (pc := 84) (n := 4) (show decode mX8_reads.2.1 84 = .ok (.iconst 4, 1) by decide +kernel) ?_
          refine x_bipush (pc := 85) (n := 8) (show decode mX8_reads.2.1 85 = .ok (.bipush 8, 2) by decide +kernel) rfl ?_
          refine x_callV (pc := 87) (As := [.inl 4, .inl 8]) (rest := [.inl (x1 + 3), .inr (.inr 16)]) (lk8_249 rfl) im_X8_word sl_X8_word rfl rfl rfl (Nat.le_of_ble_eq_true rfl) (Nat.le_of_ble_eq_true rfl) (show decode mX8_reads.2.1 87 = .ok (.invokevirtual 249, 3) by decide +kernel) hd hR (fun r9 h4 hq => ?_)
          obtain ⟨r5, rfl, hR⟩ := hq
          show xG _ _ _ 90 _ [.inl r5, .inl (x1 + 3), .inr (.inr 16)] _ _
          refine x_iconst (pc := 90) (n := 4) (show decode mX8_reads.2.1 90 = .ok (.iconst 4, 1) by decide +kernel) ?_
          refine x_isub (pc := 91) (show decode mX8_reads.2.1 91 = .ok (.isub, 1) by decide +kernel) ?_
          obtain ⟨hg, hR⟩ := hR
          refine x_iast (pc := 92) rfl (by decide) hg (show decode mX8_reads.2.1 92 = .ok (.iastore, 1) by decide +kernel) ?_
          exact x_vret (pc := 93) rfl (show decode mX8_reads.2.1 93 = .ok (.return_, 1) by decide +kernel) ⟨rfl, hR⟩
    · replace hR := hR.2 hc
      refine x_aload_n (pc := 42) (show decode mX8_reads.2.1 42 = .ok (.aload_n 0, 1) by decide +kernel) rfl rfl ?_
      refine x_getI (pc := 43) (ki := 25) f8_236 rfl rfl (by decide) rfl (show decode mX8_reads.2.1 43 = .ok (.getfield 236, 3) by decide +kernel) ?_
      obtain ⟨hg, hR⟩ := hR
      refine x_if_ge (pc := 46) (tgt := 61) (show decode mX8_reads.2.1 46 = .ok (.ifCond .ge 15, 3) by decide +kernel) (by decide) hg (fun hc => ?_) (fun hc => ?_)
      · replace hR := hR.1 hc
        refine x_iload_n (pc := 61) (show decode mX8_reads.2.1 61 = .ok (.iload_n 2, 1) by decide +kernel) rfl rfl ?_
        obtain ⟨hg, hR⟩ := hR
        refine x_if_ne (pc := 62) (tgt := 93) (show decode mX8_reads.2.1 62 = .ok (.ifCond .ne 31, 3) by decide +kernel) (by decide) hg (fun hc => ?_) (fun hc => ?_)
        · replace hR := hR.1 hc
          exact x_vret (pc := 93) rfl (show decode mX8_reads.2.1 93 = .ok (.return_, 1) by decide +kernel) ⟨rfl, hR⟩
        · replace hR := hR.2 hc
          refine x_aload_n (pc := 65) (show decode mX8_reads.2.1 65 = .ok (.aload_n 0, 1) by decide +kernel) rfl rfl ?_
          refine x_getI (pc := 66) (ki := 25) f8_236 rfl rfl (by decide) rfl (show decode mX8_reads.2.1 66 = .ok (.getfield 236, 3) by decide +kernel) ?_
          obtain ⟨hg, hR⟩ := hR
          refine x_if_ge (pc := 69) (tgt := 93) (show decode mX8_reads.2.1 69 = .ok (.ifCond .ge 24, 3) by decide +kernel) (by decide) hg (fun hc => ?_) (fun hc => ?_)
          · replace hR := hR.1 hc
            exact x_vret (pc := 93) rfl (show decode mX8_reads.2.1 93 = .ok (.return_, 1) by decide +kernel) ⟨rfl, hR⟩
          · replace hR := hR.2 hc
            refine x_aload_n (pc := 72) (show decode mX8_reads.2.1 72 = .ok (.aload_n 0, 1) by decide +kernel) rfl rfl ?_
            refine x_callV (pc := 73) (As := []) (rest := []) (lk8_246 rfl) im_X8_blank sl_X8_blank rfl rfl rfl (Nat.le_of_ble_eq_true rfl) (Nat.le_of_ble_eq_true rfl) (show decode mX8_reads.2.1 73 = .ok (.invokevirtual 246, 3) by decide +kernel) hd hR (fun r9 h6 hq => ?_)
            obtain ⟨rfl, hR⟩ := hq
            show xG _ _ _ 76 _ [] _ _
            refine x_aload_n (pc := 76) (show decode mX8_reads.2.1 76 = .ok (.aload_n 0, 1) by decide +kernel) rfl rfl ?_
            refine x_getR (pc := 77) f8_59 rfl rfl (show decode mX8_reads.2.1 77 = .ok (.getfield 59, 3) by decide +kernel) ?_
            refine x_iload_n (pc := 80) (show decode mX8_reads.2.1 80 = .ok (.iload_n 1, 1) by decide +kernel) rfl rfl ?_
            refine x_iconst (pc := 81) (n := 3) (show decode mX8_reads.2.1 81 = .ok (.iconst 3, 1) by decide +kernel) ?_
            refine x_iadd (pc := 82) (show decode mX8_reads.2.1 82 = .ok (.iadd, 1) by decide +kernel) ?_
            refine x_aload_n (pc := 83) (show decode mX8_reads.2.1 83 = .ok (.aload_n 0, 1) by decide +kernel) rfl rfl ?_
            refine x_iconst (pc := 84) (n := 4) (show decode mX8_reads.2.1 84 = .ok (.iconst 4, 1) by decide +kernel) ?_
            refine x_bipush (pc := 85) (n := 8) (show decode mX8_reads.2.1 85 = .ok (.bipush 8, 2) by decide +kernel) rfl ?_
            refine x_callV (pc := 87) (As := [.inl 4, .inl 8]) (rest := [.inl (x1 + 3), .inr (.inr 16)]) (lk8_249 rfl) im_X8_word sl_X8_word rfl rfl rfl (Nat.le_of_ble_eq_true rfl) (Nat.le_of_ble_eq_true rfl) (show decode mX8_reads.2.1 87 = .ok (.invokevirtual 249, 3) by decide +kernel) hd hR (fun r9 h7 hq => ?_)
            obtain ⟨r8, rfl, hR⟩ := hq
            show xG _ _ _ 90 _ [.inl r8, .inl (x1 + 3), .inr (.inr 16)] _ _
            refine x_iconst (pc := 90) (n := 4) (show decode mX8_reads.2.1 90 = .ok (.iconst 4, 1) by decide +kernel) ?_
            refine x_isub (pc := 91) (show decode mX8_reads.2.1 91 = .ok (.isub, 1) by decide +kernel) ?_
            obtain ⟨hg, hR⟩ := hR
            refine x_iast (pc := 92) rfl (by decide) hg (show decode mX8_reads.2.1 92 = .ok (.iastore, 1) by decide +kernel) ?_
            exact x_vret (pc := 93) rfl (show decode mX8_reads.2.1 93 = .ok (.return_, 1) by decide +kernel) ⟨rfl, hR⟩
      · replace hR := hR.2 hc
        refine x_aload_n (pc := 49) (show decode mX8_reads.2.1 49 = .ok (.aload_n 0, 1) by decide +kernel) rfl rfl ?_
        refine x_getR (pc := 50) f8_59 rfl rfl (show decode mX8_reads.2.1 50 = .ok (.getfield 59, 3) by decide +kernel) ?_
        refine x_iload_n (pc := 53) (show decode mX8_reads.2.1 53 = .ok (.iload_n 1, 1) by decide +kernel) rfl rfl ?_
        refine x_iconst (pc := 54) (n := 2) (show decode mX8_reads.2.1 54 = .ok (.iconst 2, 1) by decide +kernel) ?_
        refine x_iadd (pc := 55) (show decode mX8_reads.2.1 55 = .ok (.iadd, 1) by decide +kernel) ?_
        refine x_aload_n (pc := 56) (show decode mX8_reads.2.1 56 = .ok (.aload_n 0, 1) by decide +kernel) rfl rfl ?_
        refine x_callV (pc := 57) (As := []) (rest := [.inl (x1 + 2), .inr (.inr 16)]) (lk8_252 rfl) im_X8_figures sl_X8_figures rfl rfl rfl (Nat.le_of_ble_eq_true rfl) (Nat.le_of_ble_eq_true rfl) (show decode mX8_reads.2.1 57 = .ok (.invokevirtual 252, 3) by decide +kernel) hd hR (fun r9 h9 hq => ?_)
        obtain ⟨r10, rfl, hR⟩ := hq
        show xG _ _ _ 60 _ [.inl r10, .inl (x1 + 2), .inr (.inr 16)] _ _
        obtain ⟨hg, hR⟩ := hR
        refine x_iast (pc := 60) rfl (by decide) hg (show decode mX8_reads.2.1 60 = .ok (.iastore, 1) by decide +kernel) ?_
        refine x_iload_n (pc := 61) (show decode mX8_reads.2.1 61 = .ok (.iload_n 2, 1) by decide +kernel) rfl rfl ?_
        obtain ⟨hg, hR⟩ := hR
        refine x_if_ne (pc := 62) (tgt := 93) (show decode mX8_reads.2.1 62 = .ok (.ifCond .ne 31, 3) by decide +kernel) (by decide) hg (fun hc => ?_) (fun hc => ?_)
        · replace hR := hR.1 hc
          exact x_vret (pc := 93) rfl (show decode mX8_reads.2.1 93 = .ok (.return_, 1) by decide +kernel) ⟨rfl, hR⟩
        · replace hR := hR.2 hc
          refine x_aload_n (pc := 65) (show decode mX8_reads.2.1 65 = .ok (.aload_n 0, 1) by decide +kernel) rfl rfl ?_
          refine x_getI (pc := 66) (ki := 25) f8_236 rfl rfl (by decide) rfl (show decode mX8_reads.2.1 66 = .ok (.getfield 236, 3) by decide +kernel) ?_
          obtain ⟨hg, hR⟩ := hR
          refine x_if_ge (pc := 69) (tgt := 93) (show decode mX8_reads.2.1 69 = .ok (.ifCond .ge 24, 3) by decide +kernel) (by decide) hg (fun hc => ?_) (fun hc => ?_)
          · replace hR := hR.1 hc
            exact x_vret (pc := 93) rfl (show decode mX8_reads.2.1 93 = .ok (.return_, 1) by decide +kernel) ⟨rfl, hR⟩
          · replace hR := hR.2 hc
            refine x_aload_n (pc := 72) (show decode mX8_reads.2.1 72 = .ok (.aload_n 0, 1) by decide +kernel) rfl rfl ?_
            refine x_callV (pc := 73) (As := []) (rest := []) (lk8_246 rfl) im_X8_blank sl_X8_blank rfl rfl rfl (Nat.le_of_ble_eq_true rfl) (Nat.le_of_ble_eq_true rfl) (show decode mX8_reads.2.1 73 = .ok (.invokevirtual 246, 3) by decide +kernel) hd hR (fun r9 h11 hq => ?_)
            obtain ⟨rfl, hR⟩ := hq
            show xG _ _ _ 76 _ [] _ _
            refine x_aload_n (pc := 76) (show decode mX8_reads.2.1 76 = .ok (.aload_n 0, 1) by decide +kernel) rfl rfl ?_
            refine x_getR (pc := 77) f8_59 rfl rfl (show decode mX8_reads.2.1 77 = .ok (.getfield 59, 3) by decide +kernel) ?_
            refine x_iload_n (pc := 80) (show decode mX8_reads.2.1 80 = .ok (.iload_n 1, 1) by decide +kernel) rfl rfl ?_
            refine x_iconst (pc := 81) (n := 3) (show decode mX8_reads.2.1 81 = .ok (.iconst 3, 1) by decide +kernel) ?_
            refine x_iadd (pc := 82) (show decode mX8_reads.2.1 82 = .ok (.iadd, 1) by decide +kernel) ?_
            refine x_aload_n (pc := 83) (show decode mX8_reads.2.1 83 = .ok (.aload_n 0, 1) by decide +kernel) rfl rfl ?_
            refine x_iconst (pc := 84) (n := 4) (show decode mX8_reads.2.1 84 = .ok (.iconst 4, 1) by decide +kernel) ?_
            refine x_bipush (pc := 85) (n := 8) (show decode mX8_reads.2.1 85 = .ok (.bipush 8, 2) by decide +kernel) rfl ?_
            refine x_callV (pc := 87) (As := [.inl 4, .inl 8]) (rest := [.inl (x1 + 3), .inr (.inr 16)]) (lk8_249 rfl) im_X8_word sl_X8_word rfl rfl rfl (Nat.le_of_ble_eq_true rfl) (Nat.le_of_ble_eq_true rfl) (show decode mX8_reads.2.1 87 = .ok (.invokevirtual 249, 3) by decide +kernel) hd hR (fun r9 h12 hq => ?_)
            obtain ⟨r13, rfl, hR⟩ := hq
            show xG _ _ _ 90 _ [.inl r13, .inl (x1 + 3), .inr (.inr 16)] _ _
            refine x_iconst (pc := 90) (n := 4) (show decode mX8_reads.2.1 90 = .ok (.iconst 4, 1) by decide +kernel) ?_
            refine x_isub (pc := 91) (show decode mX8_reads.2.1 91 = .ok (.isub, 1) by decide +kernel) ?_
            obtain ⟨hg, hR⟩ := hR
            refine x_iast (pc := 92) rfl (by decide) hg (show decode mX8_reads.2.1 92 = .ok (.iastore, 1) by decide +kernel) ?_
            exact x_vret (pc := 93) rfl (show decode mX8_reads.2.1 93 = .ok (.return_, 1) by decide +kernel) ⟨rfl, hR⟩
  · replace hR := hR.2 hc
    refine x_aload_n (pc := 28) (show decode mX8_reads.2.1 28 = .ok (.aload_n 0, 1) by decide +kernel) rfl rfl ?_
    refine x_callV (pc := 29) (As := []) (rest := [.inl (x1 + 1), .inr (.inr 16)]) (lk8_252 rfl) im_X8_figures sl_X8_figures rfl rfl rfl (Nat.le_of_ble_eq_true rfl) (Nat.le_of_ble_eq_true rfl) (show decode mX8_reads.2.1 29 = .ok (.invokevirtual 252, 3) by decide +kernel) hd hR (fun r9 h14 hq => ?_)
    obtain ⟨r15, rfl, hR⟩ := hq
    show xG _ _ _ 32 _ [.inl r15, .inl (x1 + 1), .inr (.inr 16)] _ _
    refine x_goto (pc := 32) (tgt := 36) (show decode mX8_reads.2.1 32 = .ok (.goto 4, 3) by decide +kernel) (by decide) ?_
    obtain ⟨hg, hR⟩ := hR
    refine x_iast (pc := 36) rfl (by decide) hg (show decode mX8_reads.2.1 36 = .ok (.iastore, 1) by decide +kernel) ?_
    refine x_iload_n (pc := 37) (show decode mX8_reads.2.1 37 = .ok (.iload_n 2, 1) by decide +kernel) rfl rfl ?_
    refine x_iconst (pc := 38) (n := 2) (show decode mX8_reads.2.1 38 = .ok (.iconst 2, 1) by decide +kernel) ?_
    obtain ⟨hg, hR⟩ := hR
    refine x_icmp_ge (pc := 39) (tgt := 61) (show decode mX8_reads.2.1 39 = .ok (.if_icmp .ge 22, 3) by decide +kernel) (by decide) ⟨hg, (by unfold inI; decide)⟩ (fun hc => ?_) (fun hc => ?_)
    · replace hR := hR.1 hc
      refine x_iload_n (pc := 61) (show decode mX8_reads.2.1 61 = .ok (.iload_n 2, 1) by decide +kernel) rfl rfl ?_
      obtain ⟨hg, hR⟩ := hR
      refine x_if_ne (pc := 62) (tgt := 93) (show decode mX8_reads.2.1 62 = .ok (.ifCond .ne 31, 3) by decide +kernel) (by decide) hg (fun hc => ?_) (fun hc => ?_)
      · replace hR := hR.1 hc
        exact x_vret (pc := 93) rfl (show decode mX8_reads.2.1 93 = .ok (.return_, 1) by decide +kernel) ⟨rfl, hR⟩
      · replace hR := hR.2 hc
        refine x_aload_n (pc := 65) (show decode mX8_reads.2.1 65 = .ok (.aload_n 0, 1) by decide +kernel) rfl rfl ?_
        refine x_getI (pc := 66) (ki := 25) f8_236 rfl rfl (by decide) rfl (show decode mX8_reads.2.1 66 = .ok (.getfield 236, 3) by decide +kernel) ?_
        obtain ⟨hg, hR⟩ := hR
        refine x_if_ge (pc := 69) (tgt := 93) (show decode mX8_reads.2.1 69 = .ok (.ifCond .ge 24, 3) by decide +kernel) (by decide) hg (fun hc => ?_) (fun hc => ?_)
        · replace hR := hR.1 hc
          exact x_vret (pc := 93) rfl (show decode mX8_reads.2.1 93 = .ok (.return_, 1) by decide +kernel) ⟨rfl, hR⟩
        · replace hR := hR.2 hc
          refine x_aload_n (pc := 72) (show decode mX8_reads.2.1 72 = .ok (.aload_n 0, 1) by decide +kernel) rfl rfl ?_
          refine x_callV (pc := 73) (As := []) (rest := []) (lk8_246 rfl) im_X8_blank sl_X8_blank rfl rfl rfl (Nat.le_of_ble_eq_true rfl) (Nat.le_of_ble_eq_true rfl) (show decode mX8_reads.2.1 73 = .ok (.invokevirtual 246, 3) by decide +kernel) hd hR (fun r9 h16 hq => ?_)
          obtain ⟨rfl, hR⟩ := hq
          show xG _ _ _ 76 _ [] _ _
          refine x_aload_n (pc := 76) (show decode mX8_reads.2.1 76 = .ok (.aload_n 0, 1) by decide +kernel) rfl rfl ?_
          refine x_getR (pc := 77) f8_59 rfl rfl (show decode mX8_reads.2.1 77 = .ok (.getfield 59, 3) by decide +kernel) ?_
          refine x_iload_n (pc := 80) (show decode mX8_reads.2.1 80 = .ok (.iload_n 1, 1) by decide +kernel) rfl rfl ?_
          refine x_iconst (pc := 81) (n := 3) (show decode mX8_reads.2.1 81 = .ok (.iconst 3, 1) by decide +kernel) ?_
          refine x_iadd (pc := 82) (show decode mX8_reads.2.1 82 = .ok (.iadd, 1) by decide +kernel) ?_
          refine x_aload_n (pc := 83) (show decode mX8_reads.2.1 83 = .ok (.aload_n 0, 1) by decide +kernel) rfl rfl ?_
          refine x_iconst (pc := 84) (n := 4) (show decode mX8_reads.2.1 84 = .ok (.iconst 4, 1) by decide +kernel) ?_
          refine x_bipush (pc := 85) (n := 8) (show decode mX8_reads.2.1 85 = .ok (.bipush 8, 2) by decide +kernel) rfl ?_
          refine x_callV (pc := 87) (As := [.inl 4, .inl 8]) (rest := [.inl (x1 + 3), .inr (.inr 16)]) (lk8_249 rfl) im_X8_word sl_X8_word rfl rfl rfl (Nat.le_of_ble_eq_true rfl) (Nat.le_of_ble_eq_true rfl) (show decode mX8_reads.2.1 87 = .ok (.invokevirtual 249, 3) by decide +kernel) hd hR (fun r9 h17 hq => ?_)
          obtain ⟨r18, rfl, hR⟩ := hq
          show xG _ _ _ 90 _ [.inl r18, .inl (x1 + 3), .inr (.inr 16)] _ _
          refine x_iconst (pc := 90) (n := 4) (show decode mX8_reads.2.1 90 = .ok (.iconst 4, 1) by decide +kernel) ?_
          refine x_isub (pc := 91) (show decode mX8_reads.2.1 91 = .ok (.isub, 1) by decide +kernel) ?_
          obtain ⟨hg, hR⟩ := hR
          refine x_iast (pc := 92) rfl (by decide) hg (show decode mX8_reads.2.1 92 = .ok (.iastore, 1) by decide +kernel) ?_
          exact x_vret (pc := 93) rfl (show decode mX8_reads.2.1 93 = .ok (.return_, 1) by decide +kernel) ⟨rfl, hR⟩
    · replace hR := hR.2 hc
      refine x_aload_n (pc := 42) (show decode mX8_reads.2.1 42 = .ok (.aload_n 0, 1) by decide +kernel) rfl rfl ?_
      refine x_getI (pc := 43) (ki := 25) f8_236 rfl rfl (by decide) rfl (show decode mX8_reads.2.1 43 = .ok (.getfield 236, 3) by decide +kernel) ?_
      obtain ⟨hg, hR⟩ := hR
      refine x_if_ge (pc := 46) (tgt := 61) (show decode mX8_reads.2.1 46 = .ok (.ifCond .ge 15, 3) by decide +kernel) (by decide) hg (fun hc => ?_) (fun hc => ?_)
      · replace hR := hR.1 hc
        refine x_iload_n (pc := 61) (show decode mX8_reads.2.1 61 = .ok (.iload_n 2, 1) by decide +kernel) rfl rfl ?_
        obtain ⟨hg, hR⟩ := hR
        refine x_if_ne (pc := 62) (tgt := 93) (show decode mX8_reads.2.1 62 = .ok (.ifCond .ne 31, 3) by decide +kernel) (by decide) hg (fun hc => ?_) (fun hc => ?_)
        · replace hR := hR.1 hc
          exact x_vret (pc := 93) rfl (show decode mX8_reads.2.1 93 = .ok (.return_, 1) by decide +kernel) ⟨rfl, hR⟩
        · replace hR := hR.2 hc
          refine x_aload_n (pc := 65) (show decode mX8_reads.2.1 65 = .ok (.aload_n 0, 1) by decide +kernel) rfl rfl ?_
          refine x_getI (pc := 66) (ki := 25) f8_236 rfl rfl (by decide) rfl (show decode mX8_reads.2.1 66 = .ok (.getfield 236, 3) by decide +kernel) ?_
          obtain ⟨hg, hR⟩ := hR
          refine x_if_ge (pc := 69) (tgt := 93) (show decode mX8_reads.2.1 69 = .ok (.ifCond .ge 24, 3) by decide +kernel) (by decide) hg (fun hc => ?_) (fun hc => ?_)
          · replace hR := hR.1 hc
            exact x_vret (pc := 93) rfl (show decode mX8_reads.2.1 93 = .ok (.return_, 1) by decide +kernel) ⟨rfl, hR⟩
          · replace hR := hR.2 hc
            refine x_aload_n (pc := 72) (show decode mX8_reads.2.1 72 = .ok (.aload_n 0, 1) by decide +kernel) rfl rfl ?_
            refine x_callV (pc := 73) (As := []) (rest := []) (lk8_246 rfl) im_X8_blank sl_X8_blank rfl rfl rfl (Nat.le_of_ble_eq_true rfl) (Nat.le_of_ble_eq_true rfl) (show decode mX8_reads.2.1 73 = .ok (.invokevirtual 246, 3) by decide +kernel) hd hR (fun r9 h19 hq => ?_)
            obtain ⟨rfl, hR⟩ := hq
            show xG _ _ _ 76 _ [] _ _
            refine x_aload_n (pc := 76) (show decode mX8_reads.2.1 76 = .ok (.aload_n 0, 1) by decide +kernel) rfl rfl ?_
            refine x_getR (pc := 77) f8_59 rfl rfl (show decode mX8_reads.2.1 77 = .ok (.getfield 59, 3) by decide +kernel) ?_
            refine x_iload_n (pc := 80) (show decode mX8_reads.2.1 80 = .ok (.iload_n 1, 1) by decide +kernel) rfl rfl ?_
            refine x_iconst (pc := 81) (n := 3) (show decode mX8_reads.2.1 81 = .ok (.iconst 3, 1) by decide +kernel) ?_
            refine x_iadd (pc := 82) (show decode mX8_reads.2.1 82 = .ok (.iadd, 1) by decide +kernel) ?_
            refine x_aload_n (pc := 83) (show decode mX8_reads.2.1 83 = .ok (.aload_n 0, 1) by decide +kernel) rfl rfl ?_
            refine x_iconst (pc := 84) (n := 4) (show decode mX8_reads.2.1 84 = .ok (.iconst 4, 1) by decide +kernel) ?_
            refine x_bipush (pc := 85) (n := 8) (show decode mX8_reads.2.1 85 = .ok (.bipush 8, 2) by decide +kernel) rfl ?_
            refine x_callV (pc := 87) (As := [.inl 4, .inl 8]) (rest := [.inl (x1 + 3), .inr (.inr 16)]) (lk8_249 rfl) im_X8_word sl_X8_word rfl rfl rfl (Nat.le_of_ble_eq_true rfl) (Nat.le_of_ble_eq_true rfl) (show decode mX8_reads.2.1 87 = .ok (.invokevirtual 249, 3) by decide +kernel) hd hR (fun r9 h20 hq => ?_)
            obtain ⟨r21, rfl, hR⟩ := hq
            show xG _ _ _ 90 _ [.inl r21, .inl (x1 + 3), .inr (.inr 16)] _ _
            refine x_iconst (pc := 90) (n := 4) (show decode mX8_reads.2.1 90 = .ok (.iconst 4, 1) by decide +kernel) ?_
            refine x_isub (pc := 91) (show decode mX8_reads.2.1 91 = .ok (.isub, 1) by decide +kernel) ?_
            obtain ⟨hg, hR⟩ := hR
            refine x_iast (pc := 92) rfl (by decide) hg (show decode mX8_reads.2.1 92 = .ok (.iastore, 1) by decide +kernel) ?_
            exact x_vret (pc := 93) rfl (show decode mX8_reads.2.1 93 = .ok (.return_, 1) by decide +kernel) ⟨rfl, hR⟩
      · replace hR := hR.2 hc
        refine x_aload_n (pc := 49) (show decode mX8_reads.2.1 49 = .ok (.aload_n 0, 1) by decide +kernel) rfl rfl ?_
        refine x_getR (pc := 50) f8_59 rfl rfl (show decode mX8_reads.2.1 50 = .ok (.getfield 59, 3) by decide +kernel) ?_
        refine x_iload_n (pc := 53) (show decode mX8_reads.2.1 53 = .ok (.iload_n 1, 1) by decide +kernel) rfl rfl ?_
        refine x_iconst (pc := 54) (n := 2) (show decode mX8_reads.2.1 54 = .ok (.iconst 2, 1) by decide +kernel) ?_
        refine x_iadd (pc := 55) (show decode mX8_reads.2.1 55 = .ok (.iadd, 1) by decide +kernel) ?_
        refine x_aload_n (pc := 56) (show decode mX8_reads.2.1 56 = .ok (.aload_n 0, 1) by decide +kernel) rfl rfl ?_
        refine x_callV (pc := 57) (As := []) (rest := [.inl (x1 + 2), .inr (.inr 16)]) (lk8_252 rfl) im_X8_figures sl_X8_figures rfl rfl rfl (Nat.le_of_ble_eq_true rfl) (Nat.le_of_ble_eq_true rfl) (show decode mX8_reads.2.1 57 = .ok (.invokevirtual 252, 3) by decide +kernel) hd hR (fun r9 h22 hq => ?_)
        obtain ⟨r23, rfl, hR⟩ := hq
        show xG _ _ _ 60 _ [.inl r23, .inl (x1 + 2), .inr (.inr 16)] _ _
        obtain ⟨hg, hR⟩ := hR
        refine x_iast (pc := 60) rfl (by decide) hg (show decode mX8_reads.2.1 60 = .ok (.iastore, 1) by decide +kernel) ?_
        refine x_iload_n (pc := 61) (show decode mX8_reads.2.1 61 = .ok (.iload_n 2, 1) by decide +kernel) rfl rfl ?_
        obtain ⟨hg, hR⟩ := hR
        refine x_if_ne (pc := 62) (tgt := 93) (show decode mX8_reads.2.1 62 = .ok (.ifCond .ne 31, 3) by decide +kernel) (by decide) hg (fun hc => ?_) (fun hc => ?_)
        · replace hR := hR.1 hc
          exact x_vret (pc := 93) rfl (show decode mX8_reads.2.1 93 = .ok (.return_, 1) by decide +kernel) ⟨rfl, hR⟩
        · replace hR := hR.2 hc
          refine x_aload_n (pc := 65) (show decode mX8_reads.2.1 65 = .ok (.aload_n 0, 1) by decide +kernel) rfl rfl ?_
          refine x_getI (pc := 66) (ki := 25) f8_236 rfl rfl (by decide) rfl (show decode mX8_reads.2.1 66 = .ok (.getfield 236, 3) by decide +kernel) ?_
          obtain ⟨hg, hR⟩ := hR
          refine x_if_ge (pc := 69) (tgt := 93) (show decode mX8_reads.2.1 69 = .ok (.ifCond .ge 24, 3) by decide +kernel) (by decide) hg (fun hc => ?_) (fun hc => ?_)
          · replace hR := hR.1 hc
            exact x_vret (pc := 93) rfl (show decode mX8_reads.2.1 93 = .ok (.return_, 1) by decide +kernel) ⟨rfl, hR⟩
          · replace hR := hR.2 hc
            refine x_aload_n (pc := 72) (show decode mX8_reads.2.1 72 = .ok (.aload_n 0, 1) by decide +kernel) rfl rfl ?_
            refine x_callV (pc := 73) (As := []) (rest := []) (lk8_246 rfl) im_X8_blank sl_X8_blank rfl rfl rfl (Nat.le_of_ble_eq_true rfl) (Nat.le_of_ble_eq_true rfl) (show decode mX8_reads.2.1 73 = .ok (.invokevirtual 246, 3) by decide +kernel) hd hR (fun r9 h24 hq => ?_)
            obtain ⟨rfl, hR⟩ := hq
            show xG _ _ _ 76 _ [] _ _
            refine x_aload_n (pc := 76) (show decode mX8_reads.2.1 76 = .ok (.aload_n 0, 1) by decide +kernel) rfl rfl ?_
            refine x_getR (pc := 77) f8_59 rfl rfl (show decode mX8_reads.2.1 77 = .ok (.getfield 59, 3) by decide +kernel) ?_
            refine x_iload_n (pc := 80) (show decode mX8_reads.2.1 80 = .ok (.iload_n 1, 1) by decide +kernel) rfl rfl ?_
            refine x_iconst (pc := 81) (n := 3) (show decode mX8_reads.2.1 81 = .ok (.iconst 3, 1) by decide +kernel) ?_
            refine x_iadd (pc := 82) (show decode mX8_reads.2.1 82 = .ok (.iadd, 1) by decide +kernel) ?_
            refine x_aload_n (pc := 83) (show decode mX8_reads.2.1 83 = .ok (.aload_n 0, 1) by decide +kernel) rfl rfl ?_
            refine x_iconst (pc := 84) (n := 4) (show decode mX8_reads.2.1 84 = .ok (.iconst 4, 1) by decide +kernel) ?_
            refine x_bipush (pc := 85) (n := 8) (show decode mX8_reads.2.1 85 = .ok (.bipush 8, 2) by decide +kernel) rfl ?_
            refine x_callV (pc := 87) (As := [.inl 4, .inl 8]) (rest := [.inl (x1 + 3), .inr (.inr 16)]) (lk8_249 rfl) im_X8_word sl_X8_word rfl rfl rfl (Nat.le_of_ble_eq_true rfl) (Nat.le_of_ble_eq_true rfl) (show decode mX8_reads.2.1 87 = .ok (.invokevirtual 249, 3) by decide +kernel) hd hR (fun r9 h25 hq => ?_)
            obtain ⟨r26, rfl, hR⟩ := hq
            show xG _ _ _ 90 _ [.inl r26, .inl (x1 + 3), .inr (.inr 16)] _ _
            refine x_iconst (pc := 90) (n := 4) (show decode mX8_reads.2.1 90 = .ok (.iconst 4, 1) by decide +kernel) ?_
            refine x_isub (pc := 91) (show decode mX8_reads.2.1 91 = .ok (.isub, 1) by decide +kernel) ?_
            obtain ⟨hg, hR⟩ := hR
            refine x_iast (pc := 92) rfl (by decide) hg (show decode mX8_reads.2.1 92 = .ok (.iastore, 1) by decide +kernel) ?_
            exact x_vret (pc := 93) rfl (show decode mX8_reads.2.1 93 = .ok (.return_, 1) by decide +kernel) ⟨rfl, hR⟩
set_option maxRecDepth 4000 in
theorem sg_X8_tells_0 {d : Nat} {x1 : Int} {h : xH} {Q : Int → xH → Prop} (hd : 1 ≤ d)
    (hR : (0 ≤ x1 ∧ x1 < 80) ∧ inI (h 16 x1) ∧ ((h 16 x1) = 0 → (0 ≤ (x1 + 1) ∧ (x1 + 1) < 80) ∧ (0 ≤ (x1 + 2) ∧ (x1 + 2) < 80) ∧ (0 ≤ (x1 + 3) ∧ (x1 + 3) < 80) ∧ cI wdM (d - 1) mX8_pin [.inr (.inr 0), .inl (h 16 (x1 + 1)), .inl (h 16 (x1 + 2)), .inl (h 16 (x1 + 3))] h (fun r2 h1 => Q r2 h1)) ∧ ((h 16 x1) = 1 → (0 ≤ (x1 + 1) ∧ (x1 + 1) < 80) ∧ (0 ≤ (x1 + 2) ∧ (x1 + 2) < 80) ∧ cI wdM (d - 1) mX8_turn [.inr (.inr 0), .inl (h 16 (x1 + 1)), .inl (h 16 (x1 + 2))] h (fun r4 h3 => Q r4 h3)) ∧ ((¬ (h 16 x1) = 0 ∧ ¬ (h 16 x1) = 1) → (0 ≤ (x1 + 1) ∧ (x1 + 1) < 80) ∧ (0 ≤ x1 ∧ x1 < 80) ∧ (inI (h 16 x1)) ∧ (¬ (h 16 x1) = 3 → cI wdM (d - 1) mX8_fill [.inr (.inr 0), .inl (h 16 (x1 + 1)), .inl 0] h (fun r6 h5 => Q r6 h5)) ∧ ((h 16 x1) = 3 → cI wdM (d - 1) mX8_fill [.inr (.inr 0), .inl (h 16 (x1 + 1)), .inl 1] h (fun r8 h7 => Q r8 h7)))) :
    gI wdM d mX8_tells 0 [some (.inr (.inr 0)), some (.inl x1)] h Q := by
  unfold gI
  refine x_aload_n (pc := 0) (show decode mX8_tells.2.1 0 = .ok (.aload_n 0, 1) by decide +kernel) rfl rfl ?_
  refine x_getR (pc := 1) f8_59 rfl rfl (show decode mX8_tells.2.1 1 = .ok (.getfield 59, 3) by decide +kernel) ?_
  refine x_iload_n (pc := 4) (show decode mX8_tells.2.1 4 = .ok (.iload_n 1, 1) by decide +kernel) rfl rfl ?_
  obtain ⟨hg, hR⟩ := hR
  refine x_iald (pc := 5) rfl (by decide) hg (show decode mX8_tells.2.1 5 = .ok (.iaload, 1) by decide +kernel) ?_
  obtain ⟨hg, hR⟩ := hR
  rcases (show (h 16 x1) = 0 ∨ (h 16 x1) = 1 ∨ (¬ (h 16 x1) = 0 ∧ ¬ (h 16 x1) = 1) by omega) with hc | hc | hc
  · replace hR := hR.1 hc
    refine x_lsw (pc := 6) (off := 26) (tgt := 32) (show decode mX8_tells.2.1 6 = .ok (.lookupswitch 76 #[(0, 26), (1, 55)], 26) by decide +kernel) (by decide) hg (by rw [hc]; rfl) (by decide) ?_
    refine x_aload_n (pc := 32) (show decode mX8_tells.2.1 32 = .ok (.aload_n 0, 1) by decide +kernel) rfl rfl ?_
    refine x_aload_n (pc := 33) (show decode mX8_tells.2.1 33 = .ok (.aload_n 0, 1) by decide +kernel) rfl rfl ?_
    refine x_getR (pc := 34) f8_59 rfl rfl (show decode mX8_tells.2.1 34 = .ok (.getfield 59, 3) by decide +kernel) ?_
    refine x_iload_n (pc := 37) (show decode mX8_tells.2.1 37 = .ok (.iload_n 1, 1) by decide +kernel) rfl rfl ?_
    refine x_iconst (pc := 38) (n := 1) (show decode mX8_tells.2.1 38 = .ok (.iconst 1, 1) by decide +kernel) ?_
    refine x_iadd (pc := 39) (show decode mX8_tells.2.1 39 = .ok (.iadd, 1) by decide +kernel) ?_
    obtain ⟨hg, hR⟩ := hR
    refine x_iald (pc := 40) rfl (by decide) hg (show decode mX8_tells.2.1 40 = .ok (.iaload, 1) by decide +kernel) ?_
    refine x_aload_n (pc := 41) (show decode mX8_tells.2.1 41 = .ok (.aload_n 0, 1) by decide +kernel) rfl rfl ?_
    refine x_getR (pc := 42) f8_59 rfl rfl (show decode mX8_tells.2.1 42 = .ok (.getfield 59, 3) by decide +kernel) ?_
    refine x_iload_n (pc := 45) (show decode mX8_tells.2.1 45 = .ok (.iload_n 1, 1) by decide +kernel) rfl rfl ?_
    refine x_iconst (pc := 46) (n := 2) (show decode mX8_tells.2.1 46 = .ok (.iconst 2, 1) by decide +kernel) ?_
    refine x_iadd (pc := 47) (show decode mX8_tells.2.1 47 = .ok (.iadd, 1) by decide +kernel) ?_
    obtain ⟨hg, hR⟩ := hR
    refine x_iald (pc := 48) rfl (by decide) hg (show decode mX8_tells.2.1 48 = .ok (.iaload, 1) by decide +kernel) ?_
    refine x_aload_n (pc := 49) (show decode mX8_tells.2.1 49 = .ok (.aload_n 0, 1) by decide +kernel) rfl rfl ?_
    refine x_getR (pc := 50) f8_59 rfl rfl (show decode mX8_tells.2.1 50 = .ok (.getfield 59, 3) by decide +kernel) ?_
    refine x_iload_n (pc := 53) (show decode mX8_tells.2.1 53 = .ok (.iload_n 1, 1) by decide +kernel) rfl rfl ?_
    refine x_iconst (pc := 54) (n := 3) (show decode mX8_tells.2.1 54 = .ok (.iconst 3, 1) by decide +kernel) ?_
    refine x_iadd (pc := 55) (show decode mX8_tells.2.1 55 = .ok (.iadd, 1) by decide +kernel) ?_
    obtain ⟨hg, hR⟩ := hR
    refine x_iald (pc := 56) rfl (by decide) hg (show decode mX8_tells.2.1 56 = .ok (.iaload, 1) by decide +kernel) ?_
    refine x_callV (pc := 57) (As := [.inl (h 16 (x1 + 1)), .inl (h 16 (x1 + 2)), .inl (h 16 (x1 + 3))]) (rest := []) (lk8_255 rfl) im_X8_pin sl_X8_pin rfl rfl rfl (Nat.le_of_ble_eq_true rfl) (Nat.le_of_ble_eq_true rfl) (show decode mX8_tells.2.1 57 = .ok (.invokevirtual 255, 3) by decide +kernel) hd hR (fun r9 h1 hq => ?_)
    obtain ⟨r2, rfl, hR⟩ := hq
    show xG _ _ _ 60 _ [.inl r2] _ _
    exact x_iret (pc := 60) rfl (show decode mX8_tells.2.1 60 = .ok (.ireturn, 1) by decide +kernel) ⟨_, rfl, hR⟩
  · replace hR := hR.2.1 hc
    refine x_lsw (pc := 6) (off := 55) (tgt := 61) (show decode mX8_tells.2.1 6 = .ok (.lookupswitch 76 #[(0, 26), (1, 55)], 26) by decide +kernel) (by decide) hg (by rw [hc]; rfl) (by decide) ?_
    refine x_aload_n (pc := 61) (show decode mX8_tells.2.1 61 = .ok (.aload_n 0, 1) by decide +kernel) rfl rfl ?_
    refine x_aload_n (pc := 62) (show decode mX8_tells.2.1 62 = .ok (.aload_n 0, 1) by decide +kernel) rfl rfl ?_
    refine x_getR (pc := 63) f8_59 rfl rfl (show decode mX8_tells.2.1 63 = .ok (.getfield 59, 3) by decide +kernel) ?_
    refine x_iload_n (pc := 66) (show decode mX8_tells.2.1 66 = .ok (.iload_n 1, 1) by decide +kernel) rfl rfl ?_
    refine x_iconst (pc := 67) (n := 1) (show decode mX8_tells.2.1 67 = .ok (.iconst 1, 1) by decide +kernel) ?_
    refine x_iadd (pc := 68) (show decode mX8_tells.2.1 68 = .ok (.iadd, 1) by decide +kernel) ?_
    obtain ⟨hg, hR⟩ := hR
    refine x_iald (pc := 69) rfl (by decide) hg (show decode mX8_tells.2.1 69 = .ok (.iaload, 1) by decide +kernel) ?_
    refine x_aload_n (pc := 70) (show decode mX8_tells.2.1 70 = .ok (.aload_n 0, 1) by decide +kernel) rfl rfl ?_
    refine x_getR (pc := 71) f8_59 rfl rfl (show decode mX8_tells.2.1 71 = .ok (.getfield 59, 3) by decide +kernel) ?_
    refine x_iload_n (pc := 74) (show decode mX8_tells.2.1 74 = .ok (.iload_n 1, 1) by decide +kernel) rfl rfl ?_
    refine x_iconst (pc := 75) (n := 2) (show decode mX8_tells.2.1 75 = .ok (.iconst 2, 1) by decide +kernel) ?_
    refine x_iadd (pc := 76) (show decode mX8_tells.2.1 76 = .ok (.iadd, 1) by decide +kernel) ?_
    obtain ⟨hg, hR⟩ := hR
    refine x_iald (pc := 77) rfl (by decide) hg (show decode mX8_tells.2.1 77 = .ok (.iaload, 1) by decide +kernel) ?_
    refine x_callV (pc := 78) (As := [.inl (h 16 (x1 + 1)), .inl (h 16 (x1 + 2))]) (rest := []) (lk8_258 rfl) im_X8_turn sl_X8_turn rfl rfl rfl (Nat.le_of_ble_eq_true rfl) (Nat.le_of_ble_eq_true rfl) (show decode mX8_tells.2.1 78 = .ok (.invokevirtual 258, 3) by decide +kernel) hd hR (fun r9 h3 hq => ?_)
    obtain ⟨r4, rfl, hR⟩ := hq
    show xG _ _ _ 81 _ [.inl r4] _ _
    exact x_iret (pc := 81) rfl (show decode mX8_tells.2.1 81 = .ok (.ireturn, 1) by decide +kernel) ⟨_, rfl, hR⟩
  · replace hR := hR.2.2 hc
    refine x_lsw (pc := 6) (off := 76) (tgt := 82) (show decode mX8_tells.2.1 6 = .ok (.lookupswitch 76 #[(0, 26), (1, 55)], 26) by decide +kernel) (by decide) hg (x_lsw2 hc.1 hc.2) (by decide) ?_
    refine x_aload_n (pc := 82) (show decode mX8_tells.2.1 82 = .ok (.aload_n 0, 1) by decide +kernel) rfl rfl ?_
    refine x_aload_n (pc := 83) (show decode mX8_tells.2.1 83 = .ok (.aload_n 0, 1) by decide +kernel) rfl rfl ?_
    refine x_getR (pc := 84) f8_59 rfl rfl (show decode mX8_tells.2.1 84 = .ok (.getfield 59, 3) by decide +kernel) ?_
    refine x_iload_n (pc := 87) (show decode mX8_tells.2.1 87 = .ok (.iload_n 1, 1) by decide +kernel) rfl rfl ?_
    refine x_iconst (pc := 88) (n := 1) (show decode mX8_tells.2.1 88 = .ok (.iconst 1, 1) by decide +kernel) ?_
    refine x_iadd (pc := 89) (show decode mX8_tells.2.1 89 = .ok (.iadd, 1) by decide +kernel) ?_
    obtain ⟨hg, hR⟩ := hR
    refine x_iald (pc := 90) rfl (by decide) hg (show decode mX8_tells.2.1 90 = .ok (.iaload, 1) by decide +kernel) ?_
    refine x_aload_n (pc := 91) (show decode mX8_tells.2.1 91 = .ok (.aload_n 0, 1) by decide +kernel) rfl rfl ?_
    refine x_getR (pc := 92) f8_59 rfl rfl (show decode mX8_tells.2.1 92 = .ok (.getfield 59, 3) by decide +kernel) ?_
    refine x_iload_n (pc := 95) (show decode mX8_tells.2.1 95 = .ok (.iload_n 1, 1) by decide +kernel) rfl rfl ?_
    obtain ⟨hg, hR⟩ := hR
    refine x_iald (pc := 96) rfl (by decide) hg (show decode mX8_tells.2.1 96 = .ok (.iaload, 1) by decide +kernel) ?_
    refine x_iconst (pc := 97) (n := 3) (show decode mX8_tells.2.1 97 = .ok (.iconst 3, 1) by decide +kernel) ?_
    obtain ⟨hg, hR⟩ := hR
    refine x_icmp_ne (pc := 98) (tgt := 105) (show decode mX8_tells.2.1 98 = .ok (.if_icmp .ne 7, 3) by decide +kernel) (by decide) ⟨hg, (by unfold inI; decide)⟩ (fun hc => ?_) (fun hc => ?_)
    · replace hR := hR.1 hc
      refine x_iconst (pc := 105) (n := 0) (show decode mX8_tells.2.1 105 = .ok (.iconst 0, 1) by decide +kernel) ?_
      refine x_callV (pc := 106) (As := [.inl (h 16 (x1 + 1)), .inl 0]) (rest := []) (lk8_261 rfl) im_X8_fill sl_X8_fill rfl rfl rfl (Nat.le_of_ble_eq_true rfl) (Nat.le_of_ble_eq_true rfl) (show decode mX8_tells.2.1 106 = .ok (.invokevirtual 261, 3) by decide +kernel) hd hR (fun r9 h5 hq => ?_)
      obtain ⟨r6, rfl, hR⟩ := hq
      show xG _ _ _ 109 _ [.inl r6] _ _
      exact x_iret (pc := 109) rfl (show decode mX8_tells.2.1 109 = .ok (.ireturn, 1) by decide +kernel) ⟨_, rfl, hR⟩
    · replace hR := hR.2 hc
      refine x_iconst (pc := 101) (n := 1) (show decode mX8_tells.2.1 101 = .ok (.iconst 1, 1) by decide +kernel) ?_
      refine x_goto (pc := 102) (tgt := 106) (show decode mX8_tells.2.1 102 = .ok (.goto 4, 3) by decide +kernel) (by decide) ?_
      refine x_callV (pc := 106) (As := [.inl (h 16 (x1 + 1)), .inl 1]) (rest := []) (lk8_261 rfl) im_X8_fill sl_X8_fill rfl rfl rfl (Nat.le_of_ble_eq_true rfl) (Nat.le_of_ble_eq_true rfl) (show decode mX8_tells.2.1 106 = .ok (.invokevirtual 261, 3) by decide +kernel) hd hR (fun r9 h7 hq => ?_)
      obtain ⟨r8, rfl, hR⟩ := hq
      show xG _ _ _ 109 _ [.inl r8] _ _
      exact x_iret (pc := 109) rfl (show decode mX8_tells.2.1 109 = .ok (.ireturn, 1) by decide +kernel) ⟨_, rfl, hR⟩
set_option maxRecDepth 4000 in
theorem sg_X8_pricking_0 {d : Nat} {h : xH} {Q : Int → xH → Prop}
    (hR : gI wdM d mX8_pricking 14 [some (.inr (.inr 0)), some (.inl 0), some (.inl 1), none] (xu (xu h 0 24 0) 0 25 (-1)) Q) :
    gI wdM d mX8_pricking 0 [some (.inr (.inr 0)), none, none, none] h Q := by
  unfold gI
  refine x_aload_n (pc := 0) (show decode mX8_pricking.2.1 0 = .ok (.aload_n 0, 1) by decide +kernel) rfl rfl ?_
  refine x_iconst (pc := 1) (n := 0) (show decode mX8_pricking.2.1 1 = .ok (.iconst 0, 1) by decide +kernel) ?_
  refine x_putI (pc := 2) (ki := 24) f8_233 fp8_24 rfl rfl rfl (show decode mX8_pricking.2.1 2 = .ok (.putfield 233, 3) by decide +kernel) ?_
  refine x_aload_n (pc := 5) (show decode mX8_pricking.2.1 5 = .ok (.aload_n 0, 1) by decide +kernel) rfl rfl ?_
  refine x_iconst (pc := 6) (n := (-1)) (show decode mX8_pricking.2.1 6 = .ok (.iconst (-1), 1) by decide +kernel) ?_
  refine x_putI (pc := 7) (ki := 25) f8_236 fp8_25 rfl rfl rfl (show decode mX8_pricking.2.1 7 = .ok (.putfield 236, 3) by decide +kernel) ?_
  refine x_iconst (pc := 10) (n := 0) (show decode mX8_pricking.2.1 10 = .ok (.iconst 0, 1) by decide +kernel) ?_
  refine x_istore_n (pc := 11) (ls' := [some (.inr (.inr 0)), some (.inl 0), none, none]) (show decode mX8_pricking.2.1 11 = .ok (.istore_n 1, 1) by decide +kernel) rfl (by decide) rfl ?_
  refine x_iconst (pc := 12) (n := 1) (show decode mX8_pricking.2.1 12 = .ok (.iconst 1, 1) by decide +kernel) ?_
  refine x_istore_n (pc := 13) (ls' := [some (.inr (.inr 0)), some (.inl 0), some (.inl 1), none]) (show decode mX8_pricking.2.1 13 = .ok (.istore_n 2, 1) by decide +kernel) rfl (by decide) rfl ?_
  exact hR
set_option maxRecDepth 4000 in
theorem sg_X8_pricking_14 {d : Nat} {x1 x2 : Int} {h : xH} {Q : Int → xH → Prop} (hd : 1 ≤ d)
    (hR : (inI x2) ∧ (x2 = 0 → (inI (h 0 24) ∧ inI (h 0 22)) ∧ ((h 0 22) ≤ (h 0 24) → (inI (h 0 25)) ∧ ((h 0 25) < 0 → cV wdM (d - 1) mX8_copies [.inr (.inr 1), .inr (.inr 3)] (xu h 0 22 0) (fun h1 => gI wdM d mX8_pricking 139 [some (.inr (.inr 0)), some (.inl x1), none, some (.inl 0)] h1 Q)) ∧ (0 ≤ (h 0 25) → Q ((-100) - (h 0 25)) (xu h 0 22 0))) ∧ ((h 0 24) < (h 0 22) → cV wdM (d - 1) mX8_fails [.inr (.inr 0), .inl (h 0 24)] h (fun h2 => (inI (h2 0 25)) ∧ ((h2 0 25) < 0 → cV wdM (d - 1) mX8_copies [.inr (.inr 1), .inr (.inr 3)] (xu h2 0 22 0) (fun h3 => gI wdM d mX8_pricking 139 [some (.inr (.inr 0)), some (.inl x1), none, some (.inl 0)] h3 Q)) ∧ (0 ≤ (h2 0 25) → Q ((-100) - (h2 0 25)) (xu h2 0 22 0))))) ∧ (¬ x2 = 0 → cV wdM (d - 1) mX8_reads [.inr (.inr 0), .inl (4 * x1)] h (fun h4 => (inI (h4 0 25)) ∧ (0 ≤ (h4 0 25) → gI wdM d mX8_pricking 14 [some (.inr (.inr 0)), some (.inl (x1 + 1)), some (.inl 0), none] (xu h4 0 24 ((h4 0 24) + 0)) Q) ∧ ((h4 0 25) < 0 → (inI (h4 0 24) ∧ inI (h4 0 22)) ∧ ((h4 0 22) ≤ (h4 0 24) → gI wdM d mX8_pricking 14 [some (.inr (.inr 0)), some (.inl (x1 + 1)), some (.inl 0), none] (xu h4 0 24 ((h4 0 24) + 0)) Q) ∧ ((h4 0 24) < (h4 0 22) → (0 ≤ (h4 0 24) ∧ (h4 0 24) < 120) ∧ (inI (h4 14 (h4 0 24))) ∧ (¬ (h4 14 (h4 0 24)) = 59 → gI wdM d mX8_pricking 14 [some (.inr (.inr 0)), some (.inl (x1 + 1)), some (.inl 0), none] (xu h4 0 24 ((h4 0 24) + 0)) Q) ∧ ((h4 14 (h4 0 24)) = 59 → gI wdM d mX8_pricking 14 [some (.inr (.inr 0)), some (.inl (x1 + 1)), some (.inl 1), none] (xu h4 0 24 ((h4 0 24) + 1)) Q)))))) :
    gI wdM d mX8_pricking 14 [some (.inr (.inr 0)), some (.inl x1), some (.inl x2), none] h Q := by
  unfold gI
  refine x_iload_n (pc := 14) (show decode mX8_pricking.2.1 14 = .ok (.iload_n 2, 1) by decide +kernel) rfl rfl ?_
  obtain ⟨hg, hR⟩ := hR
  refine x_if_eq (pc := 15) (tgt := 87) (show decode mX8_pricking.2.1 15 = .ok (.ifCond .eq 72, 3) by decide +kernel) (by decide) hg (fun hc => ?_) (fun hc => ?_)
  · replace hR := hR.1 hc
    refine x_aload_n (pc := 87) (show decode mX8_pricking.2.1 87 = .ok (.aload_n 0, 1) by decide +kernel) rfl rfl ?_
    refine x_getI (pc := 88) (ki := 24) f8_233 rfl rfl (by decide) rfl (show decode mX8_pricking.2.1 88 = .ok (.getfield 233, 3) by decide +kernel) ?_
    refine x_aload_n (pc := 91) (show decode mX8_pricking.2.1 91 = .ok (.aload_n 0, 1) by decide +kernel) rfl rfl ?_
    refine x_getI (pc := 92) (ki := 22) f8_230 rfl rfl (by decide) rfl (show decode mX8_pricking.2.1 92 = .ok (.getfield 230, 3) by decide +kernel) ?_
    obtain ⟨hg, hR⟩ := hR
    refine x_icmp_ge (pc := 95) (tgt := 106) (show decode mX8_pricking.2.1 95 = .ok (.if_icmp .ge 11, 3) by decide +kernel) (by decide) ⟨hg.1, hg.2⟩ (fun hc => ?_) (fun hc => ?_)
    · replace hR := hR.1 hc
      refine x_aload_n (pc := 106) (show decode mX8_pricking.2.1 106 = .ok (.aload_n 0, 1) by decide +kernel) rfl rfl ?_
      refine x_iconst (pc := 107) (n := 0) (show decode mX8_pricking.2.1 107 = .ok (.iconst 0, 1) by decide +kernel) ?_
      refine x_putI (pc := 108) (ki := 22) f8_230 fp8_22 rfl rfl rfl (show decode mX8_pricking.2.1 108 = .ok (.putfield 230, 3) by decide +kernel) ?_
      refine x_aload_n (pc := 111) (show decode mX8_pricking.2.1 111 = .ok (.aload_n 0, 1) by decide +kernel) rfl rfl ?_
      refine x_getI (pc := 112) (ki := 25) f8_236 rfl rfl (by decide) rfl (show decode mX8_pricking.2.1 112 = .ok (.getfield 236, 3) by decide +kernel) ?_
      obtain ⟨hg, hR⟩ := hR
      refine x_if_lt (pc := 115) (tgt := 126) (show decode mX8_pricking.2.1 115 = .ok (.ifCond .lt 11, 3) by decide +kernel) (by decide) hg (fun hc => ?_) (fun hc => ?_)
      · replace hR := hR.1 hc
        refine x_aload_n (pc := 126) (show decode mX8_pricking.2.1 126 = .ok (.aload_n 0, 1) by decide +kernel) rfl rfl ?_
        refine x_getR (pc := 127) f8_11 rfl rfl (show decode mX8_pricking.2.1 127 = .ok (.getfield 11, 3) by decide +kernel) ?_
        refine x_aload_n (pc := 130) (show decode mX8_pricking.2.1 130 = .ok (.aload_n 0, 1) by decide +kernel) rfl rfl ?_
        refine x_getR (pc := 131) f8_18 rfl rfl (show decode mX8_pricking.2.1 131 = .ok (.getfield 18, 3) by decide +kernel) ?_
        refine x_callS (pc := 134) (As := [.inr (.inr 1), .inr (.inr 3)]) (rest := []) (lk8_268 rfl) sm_X8_copies (Nat.le_of_ble_eq_true rfl) (Nat.le_of_ble_eq_true rfl) (show decode mX8_pricking.2.1 134 = .ok (.invokestatic 268, 3) by decide +kernel) hd hR (fun r9 h1 hq => ?_)
        obtain ⟨rfl, hR⟩ := hq
        show xG _ _ _ 137 _ [] _ _
        refine x_iconst (pc := 137) (n := 0) (show decode mX8_pricking.2.1 137 = .ok (.iconst 0, 1) by decide +kernel) ?_
        refine x_istore_n (pc := 138) (ls' := [some (.inr (.inr 0)), some (.inl x1), some (.inl x2), some (.inl 0)]) (show decode mX8_pricking.2.1 138 = .ok (.istore_n 3, 1) by decide +kernel) rfl (by decide) rfl ?_
        exact x_weak (xle_get (by repeat' constructor)) hR
      · replace hR := hR.2 hc
        refine x_bipush (pc := 118) (n := (-100)) (show decode mX8_pricking.2.1 118 = .ok (.bipush (-100), 2) by decide +kernel) rfl ?_
        refine x_aload_n (pc := 120) (show decode mX8_pricking.2.1 120 = .ok (.aload_n 0, 1) by decide +kernel) rfl rfl ?_
        refine x_getI (pc := 121) (ki := 25) f8_236 rfl rfl (by decide) rfl (show decode mX8_pricking.2.1 121 = .ok (.getfield 236, 3) by decide +kernel) ?_
        refine x_isub (pc := 124) (show decode mX8_pricking.2.1 124 = .ok (.isub, 1) by decide +kernel) ?_
        exact x_iret (pc := 125) rfl (show decode mX8_pricking.2.1 125 = .ok (.ireturn, 1) by decide +kernel) ⟨_, rfl, hR⟩
    · replace hR := hR.2 hc
      refine x_aload_n (pc := 98) (show decode mX8_pricking.2.1 98 = .ok (.aload_n 0, 1) by decide +kernel) rfl rfl ?_
      refine x_aload_n (pc := 99) (show decode mX8_pricking.2.1 99 = .ok (.aload_n 0, 1) by decide +kernel) rfl rfl ?_
      refine x_getI (pc := 100) (ki := 24) f8_233 rfl rfl (by decide) rfl (show decode mX8_pricking.2.1 100 = .ok (.getfield 233, 3) by decide +kernel) ?_
      refine x_callV (pc := 103) (As := [.inl (h 0 24)]) (rest := []) (lk8_243 rfl) im_X8_fails sl_X8_fails rfl rfl rfl (Nat.le_of_ble_eq_true rfl) (Nat.le_of_ble_eq_true rfl) (show decode mX8_pricking.2.1 103 = .ok (.invokevirtual 243, 3) by decide +kernel) hd hR (fun r9 h2 hq => ?_)
      obtain ⟨rfl, hR⟩ := hq
      show xG _ _ _ 106 _ [] _ _
      refine x_aload_n (pc := 106) (show decode mX8_pricking.2.1 106 = .ok (.aload_n 0, 1) by decide +kernel) rfl rfl ?_
      refine x_iconst (pc := 107) (n := 0) (show decode mX8_pricking.2.1 107 = .ok (.iconst 0, 1) by decide +kernel) ?_
      refine x_putI (pc := 108) (ki := 22) f8_230 fp8_22 rfl rfl rfl (show decode mX8_pricking.2.1 108 = .ok (.putfield 230, 3) by decide +kernel) ?_
      refine x_aload_n (pc := 111) (show decode mX8_pricking.2.1 111 = .ok (.aload_n 0, 1) by decide +kernel) rfl rfl ?_
      refine x_getI (pc := 112) (ki := 25) f8_236 rfl rfl (by decide) rfl (show decode mX8_pricking.2.1 112 = .ok (.getfield 236, 3) by decide +kernel) ?_
      obtain ⟨hg, hR⟩ := hR
      refine x_if_lt (pc := 115) (tgt := 126) (show decode mX8_pricking.2.1 115 = .ok (.ifCond .lt 11, 3) by decide +kernel) (by decide) hg (fun hc => ?_) (fun hc => ?_)
      · replace hR := hR.1 hc
        refine x_aload_n (pc := 126) (show decode mX8_pricking.2.1 126 = .ok (.aload_n 0, 1) by decide +kernel) rfl rfl ?_
        refine x_getR (pc := 127) f8_11 rfl rfl (show decode mX8_pricking.2.1 127 = .ok (.getfield 11, 3) by decide +kernel) ?_
        refine x_aload_n (pc := 130) (show decode mX8_pricking.2.1 130 = .ok (.aload_n 0, 1) by decide +kernel) rfl rfl ?_
        refine x_getR (pc := 131) f8_18 rfl rfl (show decode mX8_pricking.2.1 131 = .ok (.getfield 18, 3) by decide +kernel) ?_
        refine x_callS (pc := 134) (As := [.inr (.inr 1), .inr (.inr 3)]) (rest := []) (lk8_268 rfl) sm_X8_copies (Nat.le_of_ble_eq_true rfl) (Nat.le_of_ble_eq_true rfl) (show decode mX8_pricking.2.1 134 = .ok (.invokestatic 268, 3) by decide +kernel) hd hR (fun r9 h3 hq => ?_)
        obtain ⟨rfl, hR⟩ := hq
        show xG _ _ _ 137 _ [] _ _
        refine x_iconst (pc := 137) (n := 0) (show decode mX8_pricking.2.1 137 = .ok (.iconst 0, 1) by decide +kernel) ?_
        refine x_istore_n (pc := 138) (ls' := [some (.inr (.inr 0)), some (.inl x1), some (.inl x2), some (.inl 0)]) (show decode mX8_pricking.2.1 138 = .ok (.istore_n 3, 1) by decide +kernel) rfl (by decide) rfl ?_
        exact x_weak (xle_get (by repeat' constructor)) hR
      · replace hR := hR.2 hc
        refine x_bipush (pc := 118) (n := (-100)) (show decode mX8_pricking.2.1 118 = .ok (.bipush (-100), 2) by decide +kernel) rfl ?_
        refine x_aload_n (pc := 120) (show decode mX8_pricking.2.1 120 = .ok (.aload_n 0, 1) by decide +kernel) rfl rfl ?_
        refine x_getI (pc := 121) (ki := 25) f8_236 rfl rfl (by decide) rfl (show decode mX8_pricking.2.1 121 = .ok (.getfield 236, 3) by decide +kernel) ?_
        refine x_isub (pc := 124) (show decode mX8_pricking.2.1 124 = .ok (.isub, 1) by decide +kernel) ?_
        exact x_iret (pc := 125) rfl (show decode mX8_pricking.2.1 125 = .ok (.ireturn, 1) by decide +kernel) ⟨_, rfl, hR⟩
  · replace hR := hR.2 hc
    refine x_aload_n (pc := 18) (show decode mX8_pricking.2.1 18 = .ok (.aload_n 0, 1) by decide +kernel) rfl rfl ?_
    refine x_iconst (pc := 19) (n := 4) (show decode mX8_pricking.2.1 19 = .ok (.iconst 4, 1) by decide +kernel) ?_
    refine x_iload_n (pc := 20) (show decode mX8_pricking.2.1 20 = .ok (.iload_n 1, 1) by decide +kernel) rfl rfl ?_
    refine x_imul (pc := 21) (show decode mX8_pricking.2.1 21 = .ok (.imul, 1) by decide +kernel) ?_
    refine x_callV (pc := 22) (As := [.inl (4 * x1)]) (rest := []) (lk8_265 rfl) im_X8_reads sl_X8_reads rfl rfl rfl (Nat.le_of_ble_eq_true rfl) (Nat.le_of_ble_eq_true rfl) (show decode mX8_pricking.2.1 22 = .ok (.invokevirtual 265, 3) by decide +kernel) hd hR (fun r9 h4 hq => ?_)
    obtain ⟨rfl, hR⟩ := hq
    show xG _ _ _ 25 _ [] _ _
    refine x_iinc (pc := 25) (ls' := [some (.inr (.inr 0)), some (.inl (x1 + 1)), some (.inl x2), none]) (show decode mX8_pricking.2.1 25 = .ok (.iinc 1 1, 3) by decide +kernel) (by decide) rfl rfl ?_
    refine x_aload_n (pc := 28) (show decode mX8_pricking.2.1 28 = .ok (.aload_n 0, 1) by decide +kernel) rfl rfl ?_
    refine x_getI (pc := 29) (ki := 25) f8_236 rfl rfl (by decide) rfl (show decode mX8_pricking.2.1 29 = .ok (.getfield 236, 3) by decide +kernel) ?_
    obtain ⟨hg, hR⟩ := hR
    refine x_if_ge (pc := 32) (tgt := 64) (show decode mX8_pricking.2.1 32 = .ok (.ifCond .ge 32, 3) by decide +kernel) (by decide) hg (fun hc => ?_) (fun hc => ?_)
    · replace hR := hR.1 hc
      refine x_iconst (pc := 64) (n := 0) (show decode mX8_pricking.2.1 64 = .ok (.iconst 0, 1) by decide +kernel) ?_
      refine x_istore_n (pc := 65) (ls' := [some (.inr (.inr 0)), some (.inl (x1 + 1)), some (.inl 0), none]) (show decode mX8_pricking.2.1 65 = .ok (.istore_n 2, 1) by decide +kernel) rfl (by decide) rfl ?_
      refine x_aload_n (pc := 66) (show decode mX8_pricking.2.1 66 = .ok (.aload_n 0, 1) by decide +kernel) rfl rfl ?_
      refine x_dup (pc := 67) (show decode mX8_pricking.2.1 67 = .ok (.dup, 1) by decide +kernel) rfl ?_
      refine x_getI (pc := 68) (ki := 24) f8_233 rfl rfl (by decide) rfl (show decode mX8_pricking.2.1 68 = .ok (.getfield 233, 3) by decide +kernel) ?_
      refine x_iload_n (pc := 71) (show decode mX8_pricking.2.1 71 = .ok (.iload_n 2, 1) by decide +kernel) rfl rfl ?_
      refine x_if_eq (pc := 72) (tgt := 79) (show decode mX8_pricking.2.1 72 = .ok (.ifCond .eq 7, 3) by decide +kernel) (by decide) (by unfold inI; decide) (fun _ => ?_) (fun hc => absurd hc (by decide))
      refine x_iconst (pc := 79) (n := 0) (show decode mX8_pricking.2.1 79 = .ok (.iconst 0, 1) by decide +kernel) ?_
      refine x_iadd (pc := 80) (show decode mX8_pricking.2.1 80 = .ok (.iadd, 1) by decide +kernel) ?_
      refine x_putI (pc := 81) (ki := 24) f8_233 fp8_24 rfl rfl rfl (show decode mX8_pricking.2.1 81 = .ok (.putfield 233, 3) by decide +kernel) ?_
      refine x_goto (pc := 84) (tgt := 14) (show decode mX8_pricking.2.1 84 = .ok (.goto (-70), 3) by decide +kernel) (by decide) ?_
      exact hR
    · replace hR := hR.2 hc
      refine x_aload_n (pc := 35) (show decode mX8_pricking.2.1 35 = .ok (.aload_n 0, 1) by decide +kernel) rfl rfl ?_
      refine x_getI (pc := 36) (ki := 24) f8_233 rfl rfl (by decide) rfl (show decode mX8_pricking.2.1 36 = .ok (.getfield 233, 3) by decide +kernel) ?_
      refine x_aload_n (pc := 39) (show decode mX8_pricking.2.1 39 = .ok (.aload_n 0, 1) by decide +kernel) rfl rfl ?_
      refine x_getI (pc := 40) (ki := 22) f8_230 rfl rfl (by decide) rfl (show decode mX8_pricking.2.1 40 = .ok (.getfield 230, 3) by decide +kernel) ?_
      obtain ⟨hg, hR⟩ := hR
      refine x_icmp_ge (pc := 43) (tgt := 64) (show decode mX8_pricking.2.1 43 = .ok (.if_icmp .ge 21, 3) by decide +kernel) (by decide) ⟨hg.1, hg.2⟩ (fun hc => ?_) (fun hc => ?_)
      · replace hR := hR.1 hc
        refine x_iconst (pc := 64) (n := 0) (show decode mX8_pricking.2.1 64 = .ok (.iconst 0, 1) by decide +kernel) ?_
        refine x_istore_n (pc := 65) (ls' := [some (.inr (.inr 0)), some (.inl (x1 + 1)), some (.inl 0), none]) (show decode mX8_pricking.2.1 65 = .ok (.istore_n 2, 1) by decide +kernel) rfl (by decide) rfl ?_
        refine x_aload_n (pc := 66) (show decode mX8_pricking.2.1 66 = .ok (.aload_n 0, 1) by decide +kernel) rfl rfl ?_
        refine x_dup (pc := 67) (show decode mX8_pricking.2.1 67 = .ok (.dup, 1) by decide +kernel) rfl ?_
        refine x_getI (pc := 68) (ki := 24) f8_233 rfl rfl (by decide) rfl (show decode mX8_pricking.2.1 68 = .ok (.getfield 233, 3) by decide +kernel) ?_
        refine x_iload_n (pc := 71) (show decode mX8_pricking.2.1 71 = .ok (.iload_n 2, 1) by decide +kernel) rfl rfl ?_
        refine x_if_eq (pc := 72) (tgt := 79) (show decode mX8_pricking.2.1 72 = .ok (.ifCond .eq 7, 3) by decide +kernel) (by decide) (by unfold inI; decide) (fun _ => ?_) (fun hc => absurd hc (by decide))
        refine x_iconst (pc := 79) (n := 0) (show decode mX8_pricking.2.1 79 = .ok (.iconst 0, 1) by decide +kernel) ?_
        refine x_iadd (pc := 80) (show decode mX8_pricking.2.1 80 = .ok (.iadd, 1) by decide +kernel) ?_
        refine x_putI (pc := 81) (ki := 24) f8_233 fp8_24 rfl rfl rfl (show decode mX8_pricking.2.1 81 = .ok (.putfield 233, 3) by decide +kernel) ?_
        refine x_goto (pc := 84) (tgt := 14) (show decode mX8_pricking.2.1 84 = .ok (.goto (-70), 3) by decide +kernel) (by decide) ?_
        exact hR
      · replace hR := hR.2 hc
        refine x_aload_n (pc := 46) (show decode mX8_pricking.2.1 46 = .ok (.aload_n 0, 1) by decide +kernel) rfl rfl ?_
        refine x_getR (pc := 47) f8_53 rfl rfl (show decode mX8_pricking.2.1 47 = .ok (.getfield 53, 3) by decide +kernel) ?_
        refine x_aload_n (pc := 50) (show decode mX8_pricking.2.1 50 = .ok (.aload_n 0, 1) by decide +kernel) rfl rfl ?_
        refine x_getI (pc := 51) (ki := 24) f8_233 rfl rfl (by decide) rfl (show decode mX8_pricking.2.1 51 = .ok (.getfield 233, 3) by decide +kernel) ?_
        obtain ⟨hg, hR⟩ := hR
        refine x_iald (pc := 54) rfl (by decide) hg (show decode mX8_pricking.2.1 54 = .ok (.iaload, 1) by decide +kernel) ?_
        refine x_bipush (pc := 55) (n := 59) (show decode mX8_pricking.2.1 55 = .ok (.bipush 59, 2) by decide +kernel) rfl ?_
        obtain ⟨hg, hR⟩ := hR
        refine x_icmp_ne (pc := 57) (tgt := 64) (show decode mX8_pricking.2.1 57 = .ok (.if_icmp .ne 7, 3) by decide +kernel) (by decide) ⟨hg, (by unfold inI; decide)⟩ (fun hc => ?_) (fun hc => ?_)
        · replace hR := hR.1 hc
          refine x_iconst (pc := 64) (n := 0) (show decode mX8_pricking.2.1 64 = .ok (.iconst 0, 1) by decide +kernel) ?_
          refine x_istore_n (pc := 65) (ls' := [some (.inr (.inr 0)), some (.inl (x1 + 1)), some (.inl 0), none]) (show decode mX8_pricking.2.1 65 = .ok (.istore_n 2, 1) by decide +kernel) rfl (by decide) rfl ?_
          refine x_aload_n (pc := 66) (show decode mX8_pricking.2.1 66 = .ok (.aload_n 0, 1) by decide +kernel) rfl rfl ?_
          refine x_dup (pc := 67) (show decode mX8_pricking.2.1 67 = .ok (.dup, 1) by decide +kernel) rfl ?_
          refine x_getI (pc := 68) (ki := 24) f8_233 rfl rfl (by decide) rfl (show decode mX8_pricking.2.1 68 = .ok (.getfield 233, 3) by decide +kernel) ?_
          refine x_iload_n (pc := 71) (show decode mX8_pricking.2.1 71 = .ok (.iload_n 2, 1) by decide +kernel) rfl rfl ?_
          refine x_if_eq (pc := 72) (tgt := 79) (show decode mX8_pricking.2.1 72 = .ok (.ifCond .eq 7, 3) by decide +kernel) (by decide) (by unfold inI; decide) (fun _ => ?_) (fun hc => absurd hc (by decide))
          refine x_iconst (pc := 79) (n := 0) (show decode mX8_pricking.2.1 79 = .ok (.iconst 0, 1) by decide +kernel) ?_
          refine x_iadd (pc := 80) (show decode mX8_pricking.2.1 80 = .ok (.iadd, 1) by decide +kernel) ?_
          refine x_putI (pc := 81) (ki := 24) f8_233 fp8_24 rfl rfl rfl (show decode mX8_pricking.2.1 81 = .ok (.putfield 233, 3) by decide +kernel) ?_
          refine x_goto (pc := 84) (tgt := 14) (show decode mX8_pricking.2.1 84 = .ok (.goto (-70), 3) by decide +kernel) (by decide) ?_
          exact hR
        · replace hR := hR.2 hc
          refine x_iconst (pc := 60) (n := 1) (show decode mX8_pricking.2.1 60 = .ok (.iconst 1, 1) by decide +kernel) ?_
          refine x_goto (pc := 61) (tgt := 65) (show decode mX8_pricking.2.1 61 = .ok (.goto 4, 3) by decide +kernel) (by decide) ?_
          refine x_istore_n (pc := 65) (ls' := [some (.inr (.inr 0)), some (.inl (x1 + 1)), some (.inl 1), none]) (show decode mX8_pricking.2.1 65 = .ok (.istore_n 2, 1) by decide +kernel) rfl (by decide) rfl ?_
          refine x_aload_n (pc := 66) (show decode mX8_pricking.2.1 66 = .ok (.aload_n 0, 1) by decide +kernel) rfl rfl ?_
          refine x_dup (pc := 67) (show decode mX8_pricking.2.1 67 = .ok (.dup, 1) by decide +kernel) rfl ?_
          refine x_getI (pc := 68) (ki := 24) f8_233 rfl rfl (by decide) rfl (show decode mX8_pricking.2.1 68 = .ok (.getfield 233, 3) by decide +kernel) ?_
          refine x_iload_n (pc := 71) (show decode mX8_pricking.2.1 71 = .ok (.iload_n 2, 1) by decide +kernel) rfl rfl ?_
          refine x_if_eq (pc := 72) (tgt := 79) (show decode mX8_pricking.2.1 72 = .ok (.ifCond .eq 7, 3) by decide +kernel) (by decide) (by unfold inI; decide) (fun hc => absurd hc (by decide)) (fun _ => ?_)
          refine x_iconst (pc := 75) (n := 1) (show decode mX8_pricking.2.1 75 = .ok (.iconst 1, 1) by decide +kernel) ?_
          refine x_goto (pc := 76) (tgt := 80) (show decode mX8_pricking.2.1 76 = .ok (.goto 4, 3) by decide +kernel) (by decide) ?_
          refine x_iadd (pc := 80) (show decode mX8_pricking.2.1 80 = .ok (.iadd, 1) by decide +kernel) ?_
          refine x_putI (pc := 81) (ki := 24) f8_233 fp8_24 rfl rfl rfl (show decode mX8_pricking.2.1 81 = .ok (.putfield 233, 3) by decide +kernel) ?_
          refine x_goto (pc := 84) (tgt := 14) (show decode mX8_pricking.2.1 84 = .ok (.goto (-70), 3) by decide +kernel) (by decide) ?_
          exact hR
set_option maxRecDepth 4000 in
theorem sg_X8_pricking_139 {d : Nat} {x1 x3 : Int} {h : xH} {Q : Int → xH → Prop} (hd : 1 ≤ d)
    (hR : (inI x3 ∧ inI x1) ∧ (x1 ≤ x3 → Q x1 h) ∧ (x3 < x1 → cI wdM (d - 1) mX8_tells [.inr (.inr 0), .inl (4 * x3)] h (fun r2 h1 => (inI r2) ∧ (r2 < 0 → cV wdM (d - 1) mX8_copies [.inr (.inr 3), .inr (.inr 1)] h1 (fun h3 => Q ((-300) - x3) h3)) ∧ (0 ≤ r2 → gI wdM d mX8_pricking 139 [some (.inr (.inr 0)), some (.inl x1), none, some (.inl (x3 + 1))] h1 Q)))) :
    gI wdM d mX8_pricking 139 [some (.inr (.inr 0)), some (.inl x1), none, some (.inl x3)] h Q := by
  unfold gI
  refine x_iload_n (pc := 139) (show decode mX8_pricking.2.1 139 = .ok (.iload_n 3, 1) by decide +kernel) rfl rfl ?_
  refine x_iload_n (pc := 140) (show decode mX8_pricking.2.1 140 = .ok (.iload_n 1, 1) by decide +kernel) rfl rfl ?_
  obtain ⟨hg, hR⟩ := hR
  refine x_icmp_ge (pc := 141) (tgt := 180) (show decode mX8_pricking.2.1 141 = .ok (.if_icmp .ge 39, 3) by decide +kernel) (by decide) ⟨hg.1, hg.2⟩ (fun hc => ?_) (fun hc => ?_)
  · replace hR := hR.1 hc
    refine x_iload_n (pc := 180) (show decode mX8_pricking.2.1 180 = .ok (.iload_n 1, 1) by decide +kernel) rfl rfl ?_
    exact x_iret (pc := 181) rfl (show decode mX8_pricking.2.1 181 = .ok (.ireturn, 1) by decide +kernel) ⟨_, rfl, hR⟩
  · replace hR := hR.2 hc
    refine x_aload_n (pc := 144) (show decode mX8_pricking.2.1 144 = .ok (.aload_n 0, 1) by decide +kernel) rfl rfl ?_
    refine x_iconst (pc := 145) (n := 4) (show decode mX8_pricking.2.1 145 = .ok (.iconst 4, 1) by decide +kernel) ?_
    refine x_iload_n (pc := 146) (show decode mX8_pricking.2.1 146 = .ok (.iload_n 3, 1) by decide +kernel) rfl rfl ?_
    refine x_imul (pc := 147) (show decode mX8_pricking.2.1 147 = .ok (.imul, 1) by decide +kernel) ?_
    refine x_callV (pc := 148) (As := [.inl (4 * x3)]) (rest := []) (lk8_272 rfl) im_X8_tells sl_X8_tells rfl rfl rfl (Nat.le_of_ble_eq_true rfl) (Nat.le_of_ble_eq_true rfl) (show decode mX8_pricking.2.1 148 = .ok (.invokevirtual 272, 3) by decide +kernel) hd hR (fun r9 h1 hq => ?_)
    obtain ⟨r2, rfl, hR⟩ := hq
    show xG _ _ _ 151 _ [.inl r2] _ _
    obtain ⟨hg, hR⟩ := hR
    refine x_if_lt (pc := 151) (tgt := 157) (show decode mX8_pricking.2.1 151 = .ok (.ifCond .lt 6, 3) by decide +kernel) (by decide) hg (fun hc => ?_) (fun hc => ?_)
    · replace hR := hR.1 hc
      refine x_aload_n (pc := 157) (show decode mX8_pricking.2.1 157 = .ok (.aload_n 0, 1) by decide +kernel) rfl rfl ?_
      refine x_getR (pc := 158) f8_18 rfl rfl (show decode mX8_pricking.2.1 158 = .ok (.getfield 18, 3) by decide +kernel) ?_
      refine x_aload_n (pc := 161) (show decode mX8_pricking.2.1 161 = .ok (.aload_n 0, 1) by decide +kernel) rfl rfl ?_
      refine x_getR (pc := 162) f8_11 rfl rfl (show decode mX8_pricking.2.1 162 = .ok (.getfield 11, 3) by decide +kernel) ?_
      refine x_callS (pc := 165) (As := [.inr (.inr 3), .inr (.inr 1)]) (rest := []) (lk8_268 rfl) sm_X8_copies (Nat.le_of_ble_eq_true rfl) (Nat.le_of_ble_eq_true rfl) (show decode mX8_pricking.2.1 165 = .ok (.invokestatic 268, 3) by decide +kernel) hd hR (fun r9 h3 hq => ?_)
      obtain ⟨rfl, hR⟩ := hq
      show xG _ _ _ 168 _ [] _ _
      refine x_sipush (pc := 168) (n := (-300)) (show decode mX8_pricking.2.1 168 = .ok (.sipush (-300), 3) by decide +kernel) rfl ?_
      refine x_iload_n (pc := 171) (show decode mX8_pricking.2.1 171 = .ok (.iload_n 3, 1) by decide +kernel) rfl rfl ?_
      refine x_isub (pc := 172) (show decode mX8_pricking.2.1 172 = .ok (.isub, 1) by decide +kernel) ?_
      exact x_iret (pc := 173) rfl (show decode mX8_pricking.2.1 173 = .ok (.ireturn, 1) by decide +kernel) ⟨_, rfl, hR⟩
    · replace hR := hR.2 hc
      refine x_goto (pc := 154) (tgt := 174) (show decode mX8_pricking.2.1 154 = .ok (.goto 20, 3) by decide +kernel) (by decide) ?_
      refine x_iinc (pc := 174) (ls' := [some (.inr (.inr 0)), some (.inl x1), none, some (.inl (x3 + 1))]) (show decode mX8_pricking.2.1 174 = .ok (.iinc 3 1, 3) by decide +kernel) (by decide) rfl rfl ?_
      refine x_goto (pc := 177) (tgt := 139) (show decode mX8_pricking.2.1 177 = .ok (.goto (-38), 3) by decide +kernel) (by decide) ?_
      exact hR
set_option maxRecDepth 4000 in
theorem sg_X8_list_0 {d : Nat} {x1 x2 : Int} {h : xH} {Q : Int → xH → Prop} (hd : 1 ≤ d)
    (hR : cB wdM (d - 1) mX8_isList [.inl x1] h (fun h1 => (inI x2) ∧ (x2 ≤ 30 → (inI x2) ∧ (0 ≤ x2 → (0 ≤ x1 ∧ x1 < 4) ∧ gI wdM d mX8_list 34 [some (.inr (.inr 0)), some (.inl x1), none, some (.inl 0)] (xu h1 17 x1 x2) Q) ∧ (x2 < 0 → Q (-14) h1)) ∧ (30 < x2 → Q (-2) h1)) (fun h1 => Q (-1) h1)) :
    gI wdM d mX8_list 0 [some (.inr (.inr 0)), some (.inl x1), some (.inl x2), none] h Q := by
  unfold gI
  refine x_iload_n (pc := 0) (show decode mX8_list.2.1 0 = .ok (.iload_n 1, 1) by decide +kernel) rfl rfl ?_
  refine x_callS (pc := 1) (As := [.inl x1]) (rest := []) (lk8_225 rfl) sm_X8_isList (Nat.le_of_ble_eq_true rfl) (Nat.le_of_ble_eq_true rfl) (show decode mX8_list.2.1 1 = .ok (.invokestatic 225, 3) by decide +kernel) hd hR (fun r9 h1 hq => ?_)
  obtain ⟨r8, rfl, hq⟩ := hq
  rcases hq with ⟨rfl, hR⟩ | ⟨rfl, hR⟩
  · show xG _ _ _ 4 _ [.inl 1] _ _
    refine x_if_ne (pc := 4) (tgt := 9) (show decode mX8_list.2.1 4 = .ok (.ifCond .ne 5, 3) by decide +kernel) (by decide) (by unfold inI; decide) (fun _ => ?_) (fun hc => absurd hc (by decide))
    refine x_iload_n (pc := 9) (show decode mX8_list.2.1 9 = .ok (.iload_n 2, 1) by decide +kernel) rfl rfl ?_
    refine x_bipush (pc := 10) (n := 30) (show decode mX8_list.2.1 10 = .ok (.bipush 30, 2) by decide +kernel) rfl ?_
    obtain ⟨hg, hR⟩ := hR
    refine x_icmp_le (pc := 12) (tgt := 18) (show decode mX8_list.2.1 12 = .ok (.if_icmp .le 6, 3) by decide +kernel) (by decide) ⟨hg, (by unfold inI; decide)⟩ (fun hc => ?_) (fun hc => ?_)
    · replace hR := hR.1 hc
      refine x_iload_n (pc := 18) (show decode mX8_list.2.1 18 = .ok (.iload_n 2, 1) by decide +kernel) rfl rfl ?_
      obtain ⟨hg, hR⟩ := hR
      refine x_if_ge (pc := 19) (tgt := 25) (show decode mX8_list.2.1 19 = .ok (.ifCond .ge 6, 3) by decide +kernel) (by decide) hg (fun hc => ?_) (fun hc => ?_)
      · replace hR := hR.1 hc
        refine x_aload_n (pc := 25) (show decode mX8_list.2.1 25 = .ok (.aload_n 0, 1) by decide +kernel) rfl rfl ?_
        refine x_getR (pc := 26) f8_62 rfl rfl (show decode mX8_list.2.1 26 = .ok (.getfield 62, 3) by decide +kernel) ?_
        refine x_iload_n (pc := 29) (show decode mX8_list.2.1 29 = .ok (.iload_n 1, 1) by decide +kernel) rfl rfl ?_
        refine x_iload_n (pc := 30) (show decode mX8_list.2.1 30 = .ok (.iload_n 2, 1) by decide +kernel) rfl rfl ?_
        obtain ⟨hg, hR⟩ := hR
        refine x_iast (pc := 31) rfl (by decide) hg (show decode mX8_list.2.1 31 = .ok (.iastore, 1) by decide +kernel) ?_
        refine x_iconst (pc := 32) (n := 0) (show decode mX8_list.2.1 32 = .ok (.iconst 0, 1) by decide +kernel) ?_
        refine x_istore_n (pc := 33) (ls' := [some (.inr (.inr 0)), some (.inl x1), some (.inl x2), some (.inl 0)]) (show decode mX8_list.2.1 33 = .ok (.istore_n 3, 1) by decide +kernel) rfl (by decide) rfl ?_
        exact x_weak (xle_get (by repeat' constructor)) hR
      · replace hR := hR.2 hc
        refine x_bipush (pc := 22) (n := (-14)) (show decode mX8_list.2.1 22 = .ok (.bipush (-14), 2) by decide +kernel) rfl ?_
        exact x_iret (pc := 24) rfl (show decode mX8_list.2.1 24 = .ok (.ireturn, 1) by decide +kernel) ⟨_, rfl, hR⟩
    · replace hR := hR.2 hc
      refine x_bipush (pc := 15) (n := (-2)) (show decode mX8_list.2.1 15 = .ok (.bipush (-2), 2) by decide +kernel) rfl ?_
      exact x_iret (pc := 17) rfl (show decode mX8_list.2.1 17 = .ok (.ireturn, 1) by decide +kernel) ⟨_, rfl, hR⟩
  · show xG _ _ _ 4 _ [.inl 0] _ _
    refine x_if_ne (pc := 4) (tgt := 9) (show decode mX8_list.2.1 4 = .ok (.ifCond .ne 5, 3) by decide +kernel) (by decide) (by unfold inI; decide) (fun hc => absurd hc (by decide)) (fun _ => ?_)
    refine x_iconst (pc := 7) (n := (-1)) (show decode mX8_list.2.1 7 = .ok (.iconst (-1), 1) by decide +kernel) ?_
    exact x_iret (pc := 8) rfl (show decode mX8_list.2.1 8 = .ok (.ireturn, 1) by decide +kernel) ⟨_, rfl, hR⟩
set_option maxRecDepth 4000 in
theorem sg_X8_list_34 {d : Nat} {x1 x3 : Int} {h : xH} {Q : Int → xH → Prop}
    (hR : (inI x3) ∧ (30 ≤ x3 → Q 1 h) ∧ (x3 < 30 → (0 ≤ ((30 * x1) + x3) ∧ ((30 * x1) + x3) < 120) ∧ gI wdM d mX8_list 34 [some (.inr (.inr 0)), some (.inl x1), none, some (.inl (x3 + 1))] (xu h 19 ((30 * x1) + x3) 0) Q)) :
    gI wdM d mX8_list 34 [some (.inr (.inr 0)), some (.inl x1), none, some (.inl x3)] h Q := by
  unfold gI
  refine x_iload_n (pc := 34) (show decode mX8_list.2.1 34 = .ok (.iload_n 3, 1) by decide +kernel) rfl rfl ?_
  refine x_bipush (pc := 35) (n := 30) (show decode mX8_list.2.1 35 = .ok (.bipush 30, 2) by decide +kernel) rfl ?_
  obtain ⟨hg, hR⟩ := hR
  refine x_icmp_ge (pc := 37) (tgt := 58) (show decode mX8_list.2.1 37 = .ok (.if_icmp .ge 21, 3) by decide +kernel) (by decide) ⟨hg, (by unfold inI; decide)⟩ (fun hc => ?_) (fun hc => ?_)
  · replace hR := hR.1 hc
    refine x_iconst (pc := 58) (n := 1) (show decode mX8_list.2.1 58 = .ok (.iconst 1, 1) by decide +kernel) ?_
    exact x_iret (pc := 59) rfl (show decode mX8_list.2.1 59 = .ok (.ireturn, 1) by decide +kernel) ⟨_, rfl, hR⟩
  · replace hR := hR.2 hc
    refine x_aload_n (pc := 40) (show decode mX8_list.2.1 40 = .ok (.aload_n 0, 1) by decide +kernel) rfl rfl ?_
    refine x_getR (pc := 41) f8_68 rfl rfl (show decode mX8_list.2.1 41 = .ok (.getfield 68, 3) by decide +kernel) ?_
    refine x_bipush (pc := 44) (n := 30) (show decode mX8_list.2.1 44 = .ok (.bipush 30, 2) by decide +kernel) rfl ?_
    refine x_iload_n (pc := 46) (show decode mX8_list.2.1 46 = .ok (.iload_n 1, 1) by decide +kernel) rfl rfl ?_
    refine x_imul (pc := 47) (show decode mX8_list.2.1 47 = .ok (.imul, 1) by decide +kernel) ?_
    refine x_iload_n (pc := 48) (show decode mX8_list.2.1 48 = .ok (.iload_n 3, 1) by decide +kernel) rfl rfl ?_
    refine x_iadd (pc := 49) (show decode mX8_list.2.1 49 = .ok (.iadd, 1) by decide +kernel) ?_
    refine x_lconst (pc := 50) (v := 0) (show decode mX8_list.2.1 50 = .ok (.lconst 0, 1) by decide +kernel) rfl ?_
    obtain ⟨hg, hR⟩ := hR
    refine x_last (pc := 51) rfl (by decide) hg (show decode mX8_list.2.1 51 = .ok (.lastore, 1) by decide +kernel) ?_
    refine x_iinc (pc := 52) (ls' := [some (.inr (.inr 0)), some (.inl x1), none, some (.inl (x3 + 1))]) (show decode mX8_list.2.1 52 = .ok (.iinc 3 1, 3) by decide +kernel) (by decide) rfl rfl ?_
    refine x_goto (pc := 55) (tgt := 34) (show decode mX8_list.2.1 55 = .ok (.goto (-21), 3) by decide +kernel) (by decide) ?_
    exact hR
set_option maxRecDepth 4000 in
theorem sg_X8_set_0 {d : Nat} {x1 x2 x3 : Int} {h : xH} {Q : Int → xH → Prop} (hd : 1 ≤ d)
    (hR : cB wdM (d - 1) mX8_isList [.inl x1] h (fun h1 => (0 ≤ x1 ∧ x1 < 4) ∧ (inI (h1 17 x1)) ∧ (0 ≤ (h1 17 x1) → inI x2 ∧ (0 ≤ x1 ∧ x1 < 4) ∧ inI ((h1 17 x1) - 1) ∧ cB wdM (d - 1) mX8_isIn [.inr (.inl x2), .inr (.inl 0), .inr (.inl ((h1 17 x1) - 1))] h1 (fun h2 => (0 ≤ ((30 * x1) + x2) ∧ ((30 * x1) + x2) < 120) ∧ Q 1 (xu h2 19 ((30 * x1) + x2) x3)) (fun h2 => Q (-13) h2)) ∧ ((h1 17 x1) < 0 → Q (-11) h1)) (fun h1 => Q (-1) h1)) :
    gI wdM d mX8_set 0 [some (.inr (.inr 0)), some (.inl x1), some (.inl x2), some (.inr (.inl x3)), none] h Q := by
  unfold gI
  refine x_iload_n (pc := 0) (show decode mX8_set.2.1 0 = .ok (.iload_n 1, 1) by decide +kernel) rfl rfl ?_
  refine x_callS (pc := 1) (As := [.inl x1]) (rest := []) (lk8_225 rfl) sm_X8_isList (Nat.le_of_ble_eq_true rfl) (Nat.le_of_ble_eq_true rfl) (show decode mX8_set.2.1 1 = .ok (.invokestatic 225, 3) by decide +kernel) hd hR (fun r9 h1 hq => ?_)
  obtain ⟨r8, rfl, hq⟩ := hq
  rcases hq with ⟨rfl, hR⟩ | ⟨rfl, hR⟩
  · show xG _ _ _ 4 _ [.inl 1] _ _
    refine x_if_ne (pc := 4) (tgt := 9) (show decode mX8_set.2.1 4 = .ok (.ifCond .ne 5, 3) by decide +kernel) (by decide) (by unfold inI; decide) (fun _ => ?_) (fun hc => absurd hc (by decide))
    refine x_aload_n (pc := 9) (show decode mX8_set.2.1 9 = .ok (.aload_n 0, 1) by decide +kernel) rfl rfl ?_
    refine x_getR (pc := 10) f8_62 rfl rfl (show decode mX8_set.2.1 10 = .ok (.getfield 62, 3) by decide +kernel) ?_
    refine x_iload_n (pc := 13) (show decode mX8_set.2.1 13 = .ok (.iload_n 1, 1) by decide +kernel) rfl rfl ?_
    obtain ⟨hg, hR⟩ := hR
    refine x_iald (pc := 14) rfl (by decide) hg (show decode mX8_set.2.1 14 = .ok (.iaload, 1) by decide +kernel) ?_
    obtain ⟨hg, hR⟩ := hR
    refine x_if_ge (pc := 15) (tgt := 21) (show decode mX8_set.2.1 15 = .ok (.ifCond .ge 6, 3) by decide +kernel) (by decide) hg (fun hc => ?_) (fun hc => ?_)
    · replace hR := hR.1 hc
      refine x_iload_n (pc := 21) (show decode mX8_set.2.1 21 = .ok (.iload_n 2, 1) by decide +kernel) rfl rfl ?_
      obtain ⟨hg, hR⟩ := hR
      refine x_i2l (pc := 22) (show decode mX8_set.2.1 22 = .ok (.i2l, 1) by decide +kernel) hg ?_
      refine x_lconst (pc := 23) (v := 0) (show decode mX8_set.2.1 23 = .ok (.lconst 0, 1) by decide +kernel) rfl ?_
      refine x_aload_n (pc := 24) (show decode mX8_set.2.1 24 = .ok (.aload_n 0, 1) by decide +kernel) rfl rfl ?_
      refine x_getR (pc := 25) f8_62 rfl rfl (show decode mX8_set.2.1 25 = .ok (.getfield 62, 3) by decide +kernel) ?_
      refine x_iload_n (pc := 28) (show decode mX8_set.2.1 28 = .ok (.iload_n 1, 1) by decide +kernel) rfl rfl ?_
      obtain ⟨hg, hR⟩ := hR
      refine x_iald (pc := 29) rfl (by decide) hg (show decode mX8_set.2.1 29 = .ok (.iaload, 1) by decide +kernel) ?_
      refine x_iconst (pc := 30) (n := 1) (show decode mX8_set.2.1 30 = .ok (.iconst 1, 1) by decide +kernel) ?_
      refine x_isub (pc := 31) (show decode mX8_set.2.1 31 = .ok (.isub, 1) by decide +kernel) ?_
      obtain ⟨hg, hR⟩ := hR
      refine x_i2l (pc := 32) (show decode mX8_set.2.1 32 = .ok (.i2l, 1) by decide +kernel) hg ?_
      refine x_callS (pc := 33) (As := [.inr (.inl x2), .inr (.inl 0), .inr (.inl ((h1 17 x1) - 1))]) (rest := []) (lk8_79 rfl) sm_X8_isIn (Nat.le_of_ble_eq_true rfl) (Nat.le_of_ble_eq_true rfl) (show decode mX8_set.2.1 33 = .ok (.invokestatic 79, 3) by decide +kernel) hd hR (fun r9 h2 hq => ?_)
      obtain ⟨r8, rfl, hq⟩ := hq
      rcases hq with ⟨rfl, hR⟩ | ⟨rfl, hR⟩
      · show xG _ _ _ 36 _ [.inl 1] _ _
        refine x_if_ne (pc := 36) (tgt := 42) (show decode mX8_set.2.1 36 = .ok (.ifCond .ne 6, 3) by decide +kernel) (by decide) (by unfold inI; decide) (fun _ => ?_) (fun hc => absurd hc (by decide))
        refine x_aload_n (pc := 42) (show decode mX8_set.2.1 42 = .ok (.aload_n 0, 1) by decide +kernel) rfl rfl ?_
        refine x_getR (pc := 43) f8_68 rfl rfl (show decode mX8_set.2.1 43 = .ok (.getfield 68, 3) by decide +kernel) ?_
        refine x_bipush (pc := 46) (n := 30) (show decode mX8_set.2.1 46 = .ok (.bipush 30, 2) by decide +kernel) rfl ?_
        refine x_iload_n (pc := 48) (show decode mX8_set.2.1 48 = .ok (.iload_n 1, 1) by decide +kernel) rfl rfl ?_
        refine x_imul (pc := 49) (show decode mX8_set.2.1 49 = .ok (.imul, 1) by decide +kernel) ?_
        refine x_iload_n (pc := 50) (show decode mX8_set.2.1 50 = .ok (.iload_n 2, 1) by decide +kernel) rfl rfl ?_
        refine x_iadd (pc := 51) (show decode mX8_set.2.1 51 = .ok (.iadd, 1) by decide +kernel) ?_
        refine x_lload_n (pc := 52) (show decode mX8_set.2.1 52 = .ok (.lload_n 3, 1) by decide +kernel) rfl rfl ?_
        obtain ⟨hg, hR⟩ := hR
        refine x_last (pc := 53) rfl (by decide) hg (show decode mX8_set.2.1 53 = .ok (.lastore, 1) by decide +kernel) ?_
        refine x_iconst (pc := 54) (n := 1) (show decode mX8_set.2.1 54 = .ok (.iconst 1, 1) by decide +kernel) ?_
        exact x_iret (pc := 55) rfl (show decode mX8_set.2.1 55 = .ok (.ireturn, 1) by decide +kernel) ⟨_, rfl, hR⟩
      · show xG _ _ _ 36 _ [.inl 0] _ _
        refine x_if_ne (pc := 36) (tgt := 42) (show decode mX8_set.2.1 36 = .ok (.ifCond .ne 6, 3) by decide +kernel) (by decide) (by unfold inI; decide) (fun hc => absurd hc (by decide)) (fun _ => ?_)
        refine x_bipush (pc := 39) (n := (-13)) (show decode mX8_set.2.1 39 = .ok (.bipush (-13), 2) by decide +kernel) rfl ?_
        exact x_iret (pc := 41) rfl (show decode mX8_set.2.1 41 = .ok (.ireturn, 1) by decide +kernel) ⟨_, rfl, hR⟩
    · replace hR := hR.2 hc
      refine x_bipush (pc := 18) (n := (-11)) (show decode mX8_set.2.1 18 = .ok (.bipush (-11), 2) by decide +kernel) rfl ?_
      exact x_iret (pc := 20) rfl (show decode mX8_set.2.1 20 = .ok (.ireturn, 1) by decide +kernel) ⟨_, rfl, hR⟩
  · show xG _ _ _ 4 _ [.inl 0] _ _
    refine x_if_ne (pc := 4) (tgt := 9) (show decode mX8_set.2.1 4 = .ok (.ifCond .ne 5, 3) by decide +kernel) (by decide) (by unfold inI; decide) (fun hc => absurd hc (by decide)) (fun _ => ?_)
    refine x_iconst (pc := 7) (n := (-1)) (show decode mX8_set.2.1 7 = .ok (.iconst (-1), 1) by decide +kernel) ?_
    exact x_iret (pc := 8) rfl (show decode mX8_set.2.1 8 = .ok (.ireturn, 1) by decide +kernel) ⟨_, rfl, hR⟩
set_option maxRecDepth 4000 in
theorem sg_X8_get_0 {d : Nat} {x1 x2 : Int} {h : xH} {Q : Int → xH → Prop} (hd : 1 ≤ d)
    (hR : cB wdM (d - 1) mX8_isList [.inl x1] h (fun h1 => inI x2 ∧ (0 ≤ x1 ∧ x1 < 4) ∧ inI ((h1 17 x1) - 1) ∧ cB wdM (d - 1) mX8_isIn [.inr (.inl x2), .inr (.inl 0), .inr (.inl ((h1 17 x1) - 1))] h1 (fun h2 => (0 ≤ ((30 * x1) + x2) ∧ ((30 * x1) + x2) < 120) ∧ Q (h2 19 ((30 * x1) + x2)) h2) (fun h2 => Q (-9223372036854775808) h2)) (fun h1 => Q (-9223372036854775808) h1)) :
    gL wdM d mX8_get 0 [some (.inr (.inr 0)), some (.inl x1), some (.inl x2)] h Q := by
  unfold gL
  refine x_iload_n (pc := 0) (show decode mX8_get.2.1 0 = .ok (.iload_n 1, 1) by decide +kernel) rfl rfl ?_
  refine x_callS (pc := 1) (As := [.inl x1]) (rest := []) (lk8_225 rfl) sm_X8_isList (Nat.le_of_ble_eq_true rfl) (Nat.le_of_ble_eq_true rfl) (show decode mX8_get.2.1 1 = .ok (.invokestatic 225, 3) by decide +kernel) hd hR (fun r9 h1 hq => ?_)
  obtain ⟨r8, rfl, hq⟩ := hq
  rcases hq with ⟨rfl, hR⟩ | ⟨rfl, hR⟩
  · show xG _ _ _ 4 _ [.inl 1] _ _
    refine x_if_eq (pc := 4) (tgt := 39) (show decode mX8_get.2.1 4 = .ok (.ifCond .eq 35, 3) by decide +kernel) (by decide) (by unfold inI; decide) (fun hc => absurd hc (by decide)) (fun _ => ?_)
    refine x_iload_n (pc := 7) (show decode mX8_get.2.1 7 = .ok (.iload_n 2, 1) by decide +kernel) rfl rfl ?_
    obtain ⟨hg, hR⟩ := hR
    refine x_i2l (pc := 8) (show decode mX8_get.2.1 8 = .ok (.i2l, 1) by decide +kernel) hg ?_
    refine x_lconst (pc := 9) (v := 0) (show decode mX8_get.2.1 9 = .ok (.lconst 0, 1) by decide +kernel) rfl ?_
    refine x_aload_n (pc := 10) (show decode mX8_get.2.1 10 = .ok (.aload_n 0, 1) by decide +kernel) rfl rfl ?_
    refine x_getR (pc := 11) f8_62 rfl rfl (show decode mX8_get.2.1 11 = .ok (.getfield 62, 3) by decide +kernel) ?_
    refine x_iload_n (pc := 14) (show decode mX8_get.2.1 14 = .ok (.iload_n 1, 1) by decide +kernel) rfl rfl ?_
    obtain ⟨hg, hR⟩ := hR
    refine x_iald (pc := 15) rfl (by decide) hg (show decode mX8_get.2.1 15 = .ok (.iaload, 1) by decide +kernel) ?_
    refine x_iconst (pc := 16) (n := 1) (show decode mX8_get.2.1 16 = .ok (.iconst 1, 1) by decide +kernel) ?_
    refine x_isub (pc := 17) (show decode mX8_get.2.1 17 = .ok (.isub, 1) by decide +kernel) ?_
    obtain ⟨hg, hR⟩ := hR
    refine x_i2l (pc := 18) (show decode mX8_get.2.1 18 = .ok (.i2l, 1) by decide +kernel) hg ?_
    refine x_callS (pc := 19) (As := [.inr (.inl x2), .inr (.inl 0), .inr (.inl ((h1 17 x1) - 1))]) (rest := []) (lk8_79 rfl) sm_X8_isIn (Nat.le_of_ble_eq_true rfl) (Nat.le_of_ble_eq_true rfl) (show decode mX8_get.2.1 19 = .ok (.invokestatic 79, 3) by decide +kernel) hd hR (fun r9 h2 hq => ?_)
    obtain ⟨r8, rfl, hq⟩ := hq
    rcases hq with ⟨rfl, hR⟩ | ⟨rfl, hR⟩
    · show xG _ _ _ 22 _ [.inl 1] _ _
      refine x_if_eq (pc := 22) (tgt := 39) (show decode mX8_get.2.1 22 = .ok (.ifCond .eq 17, 3) by decide +kernel) (by decide) (by unfold inI; decide) (fun hc => absurd hc (by decide)) (fun _ => ?_)
      refine x_aload_n (pc := 25) (show decode mX8_get.2.1 25 = .ok (.aload_n 0, 1) by decide +kernel) rfl rfl ?_
      refine x_getR (pc := 26) f8_68 rfl rfl (show decode mX8_get.2.1 26 = .ok (.getfield 68, 3) by decide +kernel) ?_
      refine x_bipush (pc := 29) (n := 30) (show decode mX8_get.2.1 29 = .ok (.bipush 30, 2) by decide +kernel) rfl ?_
      refine x_iload_n (pc := 31) (show decode mX8_get.2.1 31 = .ok (.iload_n 1, 1) by decide +kernel) rfl rfl ?_
      refine x_imul (pc := 32) (show decode mX8_get.2.1 32 = .ok (.imul, 1) by decide +kernel) ?_
      refine x_iload_n (pc := 33) (show decode mX8_get.2.1 33 = .ok (.iload_n 2, 1) by decide +kernel) rfl rfl ?_
      refine x_iadd (pc := 34) (show decode mX8_get.2.1 34 = .ok (.iadd, 1) by decide +kernel) ?_
      obtain ⟨hg, hR⟩ := hR
      refine x_lald (pc := 35) rfl (by decide) hg (show decode mX8_get.2.1 35 = .ok (.laload, 1) by decide +kernel) ?_
      refine x_goto (pc := 36) (tgt := 42) (show decode mX8_get.2.1 36 = .ok (.goto 6, 3) by decide +kernel) (by decide) ?_
      exact x_lret (pc := 42) rfl (show decode mX8_get.2.1 42 = .ok (.lreturn, 1) by decide +kernel) ⟨_, rfl, hR⟩
    · show xG _ _ _ 22 _ [.inl 0] _ _
      refine x_if_eq (pc := 22) (tgt := 39) (show decode mX8_get.2.1 22 = .ok (.ifCond .eq 17, 3) by decide +kernel) (by decide) (by unfold inI; decide) (fun _ => ?_) (fun hc => absurd hc (by decide))
      refine x_ldc2 (pc := 39) (n := (-9223372036854775808)) (tblG_m5 184 rfl rfl) rfl (show decode mX8_get.2.1 39 = .ok (.ldc2_w 139, 3) by decide +kernel) ?_
      exact x_lret (pc := 42) rfl (show decode mX8_get.2.1 42 = .ok (.lreturn, 1) by decide +kernel) ⟨_, rfl, hR⟩
  · show xG _ _ _ 4 _ [.inl 0] _ _
    refine x_if_eq (pc := 4) (tgt := 39) (show decode mX8_get.2.1 4 = .ok (.ifCond .eq 35, 3) by decide +kernel) (by decide) (by unfold inI; decide) (fun _ => ?_) (fun hc => absurd hc (by decide))
    refine x_ldc2 (pc := 39) (n := (-9223372036854775808)) (tblG_m5 184 rfl rfl) rfl (show decode mX8_get.2.1 39 = .ok (.ldc2_w 139, 3) by decide +kernel) ?_
    exact x_lret (pc := 42) rfl (show decode mX8_get.2.1 42 = .ok (.lreturn, 1) by decide +kernel) ⟨_, rfl, hR⟩
set_option maxRecDepth 4000 in
theorem sg_X8_count_0 {d : Nat} {x1 : Int} {h : xH} {Q : Int → xH → Prop} (hd : 1 ≤ d)
    (hR : cV wdM (d - 1) mX8_findsTurns [.inr (.inr 0)] h (fun h1 => inI x1 ∧ (x1 = 0 → Q (h1 1 0) h1) ∧ (x1 = 1 → Q (h1 1 1) h1) ∧ (x1 = 2 → Q (h1 1 2) h1) ∧ (x1 = 3 → Q (h1 1 4) h1) ∧ (x1 = 4 → Q (h1 0 22) h1) ∧ (x1 = 5 → Q (h1 0 23) h1) ∧ (x1 = 6 → Q (h1 1 3) h1) ∧ (x1 = 7 → Q (h1 0 15) h1) ∧ (x1 = 8 → Q (h1 0 16) h1) ∧ ((x1 < 0 ∨ 8 < x1) → Q (-1) h1))) :
    gI wdM d mX8_count 0 [some (.inr (.inr 0)), some (.inl x1)] h Q := by
  unfold gI
  refine x_aload_n (pc := 0) (show decode mX8_count.2.1 0 = .ok (.aload_n 0, 1) by decide +kernel) rfl rfl ?_
  refine x_callV (pc := 1) (As := []) (rest := []) (lk8_214 rfl) im_X8_findsTurns sl_X8_findsTurns rfl rfl rfl (Nat.le_of_ble_eq_true rfl) (Nat.le_of_ble_eq_true rfl) (show decode mX8_count.2.1 1 = .ok (.invokevirtual 214, 3) by decide +kernel) hd hR (fun r9 h1 hq => ?_)
  obtain ⟨rfl, hR⟩ := hq
  show xG _ _ _ 4 _ [] _ _
  refine x_iload_n (pc := 4) (show decode mX8_count.2.1 4 = .ok (.iload_n 1, 1) by decide +kernel) rfl rfl ?_
  obtain ⟨hg, hR⟩ := hR
  rcases (show x1 = 0 ∨ x1 = 1 ∨ x1 = 2 ∨ x1 = 3 ∨ x1 = 4 ∨ x1 = 5 ∨ x1 = 6 ∨ x1 = 7 ∨ x1 = 8 ∨ (x1 < 0 ∨ 8 < x1) by omega) with hc | hc | hc | hc | hc | hc | hc | hc | hc | hc
  · replace hR := hR.1 hc
    refine x_tswAt (pc := 5) (n := 0) (tgt := 56) (show decode mX8_count.2.1 5 = .ok (.tableswitch 106 0 8 #[51, 58, 65, 72, 79, 84, 89, 96, 101], 51) by decide +kernel) hg hc (by decide) rfl (by decide) ?_
    refine x_aload_n (pc := 56) (show decode mX8_count.2.1 56 = .ok (.aload_n 0, 1) by decide +kernel) rfl rfl ?_
    refine x_getR (pc := 57) f8_11 rfl rfl (show decode mX8_count.2.1 57 = .ok (.getfield 11, 3) by decide +kernel) ?_
    refine x_iconst (pc := 60) (n := 0) (show decode mX8_count.2.1 60 = .ok (.iconst 0, 1) by decide +kernel) ?_
    refine x_iald (pc := 61) rfl (by decide) (by decide) (show decode mX8_count.2.1 61 = .ok (.iaload, 1) by decide +kernel) ?_
    exact x_iret (pc := 62) rfl (show decode mX8_count.2.1 62 = .ok (.ireturn, 1) by decide +kernel) ⟨_, rfl, hR⟩
  · replace hR := hR.2.1 hc
    refine x_tswAt (pc := 5) (n := 1) (tgt := 63) (show decode mX8_count.2.1 5 = .ok (.tableswitch 106 0 8 #[51, 58, 65, 72, 79, 84, 89, 96, 101], 51) by decide +kernel) hg hc (by decide) rfl (by decide) ?_
    refine x_aload_n (pc := 63) (show decode mX8_count.2.1 63 = .ok (.aload_n 0, 1) by decide +kernel) rfl rfl ?_
    refine x_getR (pc := 64) f8_11 rfl rfl (show decode mX8_count.2.1 64 = .ok (.getfield 11, 3) by decide +kernel) ?_
    refine x_iconst (pc := 67) (n := 1) (show decode mX8_count.2.1 67 = .ok (.iconst 1, 1) by decide +kernel) ?_
    refine x_iald (pc := 68) rfl (by decide) (by decide) (show decode mX8_count.2.1 68 = .ok (.iaload, 1) by decide +kernel) ?_
    exact x_iret (pc := 69) rfl (show decode mX8_count.2.1 69 = .ok (.ireturn, 1) by decide +kernel) ⟨_, rfl, hR⟩
  · replace hR := hR.2.2.1 hc
    refine x_tswAt (pc := 5) (n := 2) (tgt := 70) (show decode mX8_count.2.1 5 = .ok (.tableswitch 106 0 8 #[51, 58, 65, 72, 79, 84, 89, 96, 101], 51) by decide +kernel) hg hc (by decide) rfl (by decide) ?_
    refine x_aload_n (pc := 70) (show decode mX8_count.2.1 70 = .ok (.aload_n 0, 1) by decide +kernel) rfl rfl ?_
    refine x_getR (pc := 71) f8_11 rfl rfl (show decode mX8_count.2.1 71 = .ok (.getfield 11, 3) by decide +kernel) ?_
    refine x_iconst (pc := 74) (n := 2) (show decode mX8_count.2.1 74 = .ok (.iconst 2, 1) by decide +kernel) ?_
    refine x_iald (pc := 75) rfl (by decide) (by decide) (show decode mX8_count.2.1 75 = .ok (.iaload, 1) by decide +kernel) ?_
    exact x_iret (pc := 76) rfl (show decode mX8_count.2.1 76 = .ok (.ireturn, 1) by decide +kernel) ⟨_, rfl, hR⟩
  · replace hR := hR.2.2.2.1 hc
    refine x_tswAt (pc := 5) (n := 3) (tgt := 77) (show decode mX8_count.2.1 5 = .ok (.tableswitch 106 0 8 #[51, 58, 65, 72, 79, 84, 89, 96, 101], 51) by decide +kernel) hg hc (by decide) rfl (by decide) ?_
    refine x_aload_n (pc := 77) (show decode mX8_count.2.1 77 = .ok (.aload_n 0, 1) by decide +kernel) rfl rfl ?_
    refine x_getR (pc := 78) f8_11 rfl rfl (show decode mX8_count.2.1 78 = .ok (.getfield 11, 3) by decide +kernel) ?_
    refine x_iconst (pc := 81) (n := 4) (show decode mX8_count.2.1 81 = .ok (.iconst 4, 1) by decide +kernel) ?_
    refine x_iald (pc := 82) rfl (by decide) (by decide) (show decode mX8_count.2.1 82 = .ok (.iaload, 1) by decide +kernel) ?_
    exact x_iret (pc := 83) rfl (show decode mX8_count.2.1 83 = .ok (.ireturn, 1) by decide +kernel) ⟨_, rfl, hR⟩
  · replace hR := hR.2.2.2.2.1 hc
    refine x_tswAt (pc := 5) (n := 4) (tgt := 84) (show decode mX8_count.2.1 5 = .ok (.tableswitch 106 0 8 #[51, 58, 65, 72, 79, 84, 89, 96, 101], 51) by decide +kernel) hg hc (by decide) rfl (by decide) ?_
    refine x_aload_n (pc := 84) (show decode mX8_count.2.1 84 = .ok (.aload_n 0, 1) by decide +kernel) rfl rfl ?_
    refine x_getI (pc := 85) (ki := 22) f8_230 rfl rfl (by decide) rfl (show decode mX8_count.2.1 85 = .ok (.getfield 230, 3) by decide +kernel) ?_
    exact x_iret (pc := 88) rfl (show decode mX8_count.2.1 88 = .ok (.ireturn, 1) by decide +kernel) ⟨_, rfl, hR⟩
  · replace hR := hR.2.2.2.2.2.1 hc
    refine x_tswAt (pc := 5) (n := 5) (tgt := 89) (show decode mX8_count.2.1 5 = .ok (.tableswitch 106 0 8 #[51, 58, 65, 72, 79, 84, 89, 96, 101], 51) by decide +kernel) hg hc (by decide) rfl (by decide) ?_
    refine x_aload_n (pc := 89) (show decode mX8_count.2.1 89 = .ok (.aload_n 0, 1) by decide +kernel) rfl rfl ?_
    refine x_getI (pc := 90) (ki := 23) f8_220 rfl rfl (by decide) rfl (show decode mX8_count.2.1 90 = .ok (.getfield 220, 3) by decide +kernel) ?_
    exact x_iret (pc := 93) rfl (show decode mX8_count.2.1 93 = .ok (.ireturn, 1) by decide +kernel) ⟨_, rfl, hR⟩
  · replace hR := hR.2.2.2.2.2.2.1 hc
    refine x_tswAt (pc := 5) (n := 6) (tgt := 94) (show decode mX8_count.2.1 5 = .ok (.tableswitch 106 0 8 #[51, 58, 65, 72, 79, 84, 89, 96, 101], 51) by decide +kernel) hg hc (by decide) rfl (by decide) ?_
    refine x_aload_n (pc := 94) (show decode mX8_count.2.1 94 = .ok (.aload_n 0, 1) by decide +kernel) rfl rfl ?_
    refine x_getR (pc := 95) f8_11 rfl rfl (show decode mX8_count.2.1 95 = .ok (.getfield 11, 3) by decide +kernel) ?_
    refine x_iconst (pc := 98) (n := 3) (show decode mX8_count.2.1 98 = .ok (.iconst 3, 1) by decide +kernel) ?_
    refine x_iald (pc := 99) rfl (by decide) (by decide) (show decode mX8_count.2.1 99 = .ok (.iaload, 1) by decide +kernel) ?_
    exact x_iret (pc := 100) rfl (show decode mX8_count.2.1 100 = .ok (.ireturn, 1) by decide +kernel) ⟨_, rfl, hR⟩
  · replace hR := hR.2.2.2.2.2.2.2.1 hc
    refine x_tswAt (pc := 5) (n := 7) (tgt := 101) (show decode mX8_count.2.1 5 = .ok (.tableswitch 106 0 8 #[51, 58, 65, 72, 79, 84, 89, 96, 101], 51) by decide +kernel) hg hc (by decide) rfl (by decide) ?_
    refine x_aload_n (pc := 101) (show decode mX8_count.2.1 101 = .ok (.aload_n 0, 1) by decide +kernel) rfl rfl ?_
    refine x_getI (pc := 102) (ki := 15) f8_198 rfl rfl (by decide) rfl (show decode mX8_count.2.1 102 = .ok (.getfield 198, 3) by decide +kernel) ?_
    exact x_iret (pc := 105) rfl (show decode mX8_count.2.1 105 = .ok (.ireturn, 1) by decide +kernel) ⟨_, rfl, hR⟩
  · replace hR := hR.2.2.2.2.2.2.2.2.1 hc
    refine x_tswAt (pc := 5) (n := 8) (tgt := 106) (show decode mX8_count.2.1 5 = .ok (.tableswitch 106 0 8 #[51, 58, 65, 72, 79, 84, 89, 96, 101], 51) by decide +kernel) hg hc (by decide) rfl (by decide) ?_
    refine x_aload_n (pc := 106) (show decode mX8_count.2.1 106 = .ok (.aload_n 0, 1) by decide +kernel) rfl rfl ?_
    refine x_getI (pc := 107) (ki := 16) f8_201 rfl rfl (by decide) rfl (show decode mX8_count.2.1 107 = .ok (.getfield 201, 3) by decide +kernel) ?_
    exact x_iret (pc := 110) rfl (show decode mX8_count.2.1 110 = .ok (.ireturn, 1) by decide +kernel) ⟨_, rfl, hR⟩
  · replace hR := hR.2.2.2.2.2.2.2.2.2 hc
    refine x_tswOut (pc := 5) (tgt := 111) (show decode mX8_count.2.1 5 = .ok (.tableswitch 106 0 8 #[51, 58, 65, 72, 79, 84, 89, 96, 101], 51) by decide +kernel) hg hc (by decide) ?_
    refine x_iconst (pc := 111) (n := (-1)) (show decode mX8_count.2.1 111 = .ok (.iconst (-1), 1) by decide +kernel) ?_
    exact x_iret (pc := 112) rfl (show decode mX8_count.2.1 112 = .ok (.ireturn, 1) by decide +kernel) ⟨_, rfl, hR⟩
set_option maxRecDepth 4000 in
theorem sg_X8_image_0 {d : Nat} {h : xH} {Q : Int → xH → Prop} (hd : 1 ≤ d)
    (hR : cV wdM (d - 1) mX8_copies [.inr (.inr 1), .inr (.inr 2)] h (fun h1 => Q (h1 1 1) (xu h1 0 3 1))) :
    gI wdM d mX8_image 0 [some (.inr (.inr 0))] h Q := by
  unfold gI
  refine x_aload_n (pc := 0) (show decode mX8_image.2.1 0 = .ok (.aload_n 0, 1) by decide +kernel) rfl rfl ?_
  refine x_getR (pc := 1) f8_11 rfl rfl (show decode mX8_image.2.1 1 = .ok (.getfield 11, 3) by decide +kernel) ?_
  refine x_aload_n (pc := 4) (show decode mX8_image.2.1 4 = .ok (.aload_n 0, 1) by decide +kernel) rfl rfl ?_
  refine x_getR (pc := 5) f8_15 rfl rfl (show decode mX8_image.2.1 5 = .ok (.getfield 15, 3) by decide +kernel) ?_
  refine x_callS (pc := 8) (As := [.inr (.inr 1), .inr (.inr 2)]) (rest := []) (lk8_268 rfl) sm_X8_copies (Nat.le_of_ble_eq_true rfl) (Nat.le_of_ble_eq_true rfl) (show decode mX8_image.2.1 8 = .ok (.invokestatic 268, 3) by decide +kernel) hd hR (fun r9 h1 hq => ?_)
  obtain ⟨rfl, hR⟩ := hq
  show xG _ _ _ 11 _ [] _ _
  refine x_aload_n (pc := 11) (show decode mX8_image.2.1 11 = .ok (.aload_n 0, 1) by decide +kernel) rfl rfl ?_
  refine x_iconst (pc := 12) (n := 1) (show decode mX8_image.2.1 12 = .ok (.iconst 1, 1) by decide +kernel) ?_
  refine x_putZ (pc := 13) (ki := 3) f8_275 fp8_3 rfl rfl rfl (by decide) (show decode mX8_image.2.1 13 = .ok (.putfield 275, 3) by decide +kernel) ?_
  refine x_aload_n (pc := 16) (show decode mX8_image.2.1 16 = .ok (.aload_n 0, 1) by decide +kernel) rfl rfl ?_
  refine x_getR (pc := 17) f8_11 rfl rfl (show decode mX8_image.2.1 17 = .ok (.getfield 11, 3) by decide +kernel) ?_
  refine x_iconst (pc := 20) (n := 1) (show decode mX8_image.2.1 20 = .ok (.iconst 1, 1) by decide +kernel) ?_
  refine x_iald (pc := 21) rfl (by decide) (by decide) (show decode mX8_image.2.1 21 = .ok (.iaload, 1) by decide +kernel) ?_
  exact x_iret (pc := 22) rfl (show decode mX8_image.2.1 22 = .ok (.ireturn, 1) by decide +kernel) ⟨_, rfl, hR⟩
set_option maxRecDepth 4000 in
theorem sg_X8_restore_0 {d : Nat} {h : xH} {Q : Int → xH → Prop} (hd : 1 ≤ d)
    (hR : (inI (h 0 3)) ∧ (¬ (h 0 3) = 0 → cV wdM (d - 1) mX8_copies [.inr (.inr 2), .inr (.inr 1)] h (fun h1 => Q (h1 1 1) h1)) ∧ ((h 0 3) = 0 → Q (-3) h)) :
    gI wdM d mX8_restore 0 [some (.inr (.inr 0))] h Q := by
  unfold gI
  refine x_aload_n (pc := 0) (show decode mX8_restore.2.1 0 = .ok (.aload_n 0, 1) by decide +kernel) rfl rfl ?_
  refine x_getI (pc := 1) (ki := 3) f8_275 rfl rfl (by decide) rfl (show decode mX8_restore.2.1 1 = .ok (.getfield 275, 3) by decide +kernel) ?_
  obtain ⟨hg, hR⟩ := hR
  refine x_if_ne (pc := 4) (tgt := 10) (show decode mX8_restore.2.1 4 = .ok (.ifCond .ne 6, 3) by decide +kernel) (by decide) hg (fun hc => ?_) (fun hc => ?_)
  · replace hR := hR.1 hc
    refine x_aload_n (pc := 10) (show decode mX8_restore.2.1 10 = .ok (.aload_n 0, 1) by decide +kernel) rfl rfl ?_
    refine x_getR (pc := 11) f8_15 rfl rfl (show decode mX8_restore.2.1 11 = .ok (.getfield 15, 3) by decide +kernel) ?_
    refine x_aload_n (pc := 14) (show decode mX8_restore.2.1 14 = .ok (.aload_n 0, 1) by decide +kernel) rfl rfl ?_
    refine x_getR (pc := 15) f8_11 rfl rfl (show decode mX8_restore.2.1 15 = .ok (.getfield 11, 3) by decide +kernel) ?_
    refine x_callS (pc := 18) (As := [.inr (.inr 2), .inr (.inr 1)]) (rest := []) (lk8_268 rfl) sm_X8_copies (Nat.le_of_ble_eq_true rfl) (Nat.le_of_ble_eq_true rfl) (show decode mX8_restore.2.1 18 = .ok (.invokestatic 268, 3) by decide +kernel) hd hR (fun r9 h1 hq => ?_)
    obtain ⟨rfl, hR⟩ := hq
    show xG _ _ _ 21 _ [] _ _
    refine x_aload_n (pc := 21) (show decode mX8_restore.2.1 21 = .ok (.aload_n 0, 1) by decide +kernel) rfl rfl ?_
    refine x_getR (pc := 22) f8_11 rfl rfl (show decode mX8_restore.2.1 22 = .ok (.getfield 11, 3) by decide +kernel) ?_
    refine x_iconst (pc := 25) (n := 1) (show decode mX8_restore.2.1 25 = .ok (.iconst 1, 1) by decide +kernel) ?_
    refine x_iald (pc := 26) rfl (by decide) (by decide) (show decode mX8_restore.2.1 26 = .ok (.iaload, 1) by decide +kernel) ?_
    exact x_iret (pc := 27) rfl (show decode mX8_restore.2.1 27 = .ok (.ireturn, 1) by decide +kernel) ⟨_, rfl, hR⟩
  · replace hR := hR.2 hc
    refine x_bipush (pc := 7) (n := (-3)) (show decode mX8_restore.2.1 7 = .ok (.bipush (-3), 2) by decide +kernel) rfl ?_
    exact x_iret (pc := 9) rfl (show decode mX8_restore.2.1 9 = .ok (.ireturn, 1) by decide +kernel) ⟨_, rfl, hR⟩
