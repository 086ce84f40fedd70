/-! segments: what a method does from one cut point to the next (written by wip/whole/seg.py) -/
set_option maxRecDepth 4000 in
theorem sg_X7_loom_0 {d : Nat} {x1 : Int} {h : xH} {Q : Int → xH → Prop} (hd : 1 ≤ d)
    (hR : (inI x1) ∧ (x1 < 2 → Q (-2) h) ∧ (2 ≤ x1 → (inI x1) ∧ (x1 ≤ 12 → cV wdC (d - 1) mX3_begin [.inr (.inr 1), .inl x1] h (fun h1 => cV wdC (d - 1) mX0_begin [.inr (.inr 6), .inl x1] h1 (fun h2 => Q (h 1 0) h2))) ∧ (12 < x1 → Q (-2) h))) :
    gI wdC d mX7_loom 0 [some (.inr (.inr 0)), some (.inl x1), none] h Q := by
  unfold gI
  refine x_iload_n (pc := 0) (show decode mX7_loom.2.1 0 = .ok (.iload_n 1, 1) by decide +kernel) rfl rfl ?_
  refine x_iconst (pc := 1) (n := 2) (show decode mX7_loom.2.1 1 = .ok (.iconst 2, 1) by decide +kernel) ?_
  obtain ⟨hg, hR⟩ := hR
  refine x_icmp_lt (pc := 2) (tgt := 11) (show decode mX7_loom.2.1 2 = .ok (.if_icmp .lt 9, 3) by decide +kernel) (by decide) ⟨hg, (by unfold inI; decide)⟩ (fun hc => ?_) (fun hc => ?_)
  · replace hR := hR.1 hc
    refine x_bipush (pc := 11) (n := (-2)) (show decode mX7_loom.2.1 11 = .ok (.bipush (-2), 2) by decide +kernel) rfl ?_
    exact x_iret (pc := 13) rfl (show decode mX7_loom.2.1 13 = .ok (.ireturn, 1) by decide +kernel) ⟨_, rfl, hR⟩
  · replace hR := hR.2 hc
    refine x_iload_n (pc := 5) (show decode mX7_loom.2.1 5 = .ok (.iload_n 1, 1) by decide +kernel) rfl rfl ?_
    refine x_bipush (pc := 6) (n := 12) (show decode mX7_loom.2.1 6 = .ok (.bipush 12, 2) by decide +kernel) rfl ?_
    obtain ⟨hg, hR⟩ := hR
    refine x_icmp_le (pc := 8) (tgt := 14) (show decode mX7_loom.2.1 8 = .ok (.if_icmp .le 6, 3) by decide +kernel) (by decide) ⟨hg, (by unfold inI; decide)⟩ (fun hc => ?_) (fun hc => ?_)
    · replace hR := hR.1 hc
      refine x_aload_n (pc := 14) (show decode mX7_loom.2.1 14 = .ok (.aload_n 0, 1) by decide +kernel) rfl rfl ?_
      refine x_getR (pc := 15) f7_12 rfl rfl (show decode mX7_loom.2.1 15 = .ok (.getfield 12, 3) by decide +kernel) ?_
      refine x_getI (pc := 18) (ki := 0) f7_86 rfl rfl (by decide) rfl (show decode mX7_loom.2.1 18 = .ok (.getfield 86, 3) by decide +kernel) ?_
      refine x_istore_n (pc := 21) (ls' := [some (.inr (.inr 0)), some (.inl x1), some (.inl (h 1 0))]) (show decode mX7_loom.2.1 21 = .ok (.istore_n 2, 1) by decide +kernel) rfl (by decide) rfl ?_
      refine x_aload_n (pc := 22) (show decode mX7_loom.2.1 22 = .ok (.aload_n 0, 1) by decide +kernel) rfl rfl ?_
      refine x_getR (pc := 23) f7_12 rfl rfl (show decode mX7_loom.2.1 23 = .ok (.getfield 12, 3) by decide +kernel) ?_
      refine x_iload_n (pc := 26) (show decode mX7_loom.2.1 26 = .ok (.iload_n 1, 1) by decide +kernel) rfl rfl ?_
      refine x_callV (pc := 27) (As := [.inl x1]) (rest := []) (lk7_81 rfl) im_X3_begin sl_X3_begin rfl rfl rfl (Nat.le_of_ble_eq_true rfl) (Nat.le_of_ble_eq_true rfl) (show decode mX7_loom.2.1 27 = .ok (.invokevirtual 81, 3) by decide +kernel) hd hR (fun r9 h1 hq => ?_)
      obtain ⟨rfl, hR⟩ := hq
      show xG _ _ _ 30 _ [] _ _
      refine x_aload_n (pc := 30) (show decode mX7_loom.2.1 30 = .ok (.aload_n 0, 1) by decide +kernel) rfl rfl ?_
      refine x_getR (pc := 31) f7_21 rfl rfl (show decode mX7_loom.2.1 31 = .ok (.getfield 21, 3) by decide +kernel) ?_
      refine x_iload_n (pc := 34) (show decode mX7_loom.2.1 34 = .ok (.iload_n 1, 1) by decide +kernel) rfl rfl ?_
      refine x_callV (pc := 35) (As := [.inl x1]) (rest := []) (lk7_85 rfl) im_X0_begin sl_X0_begin rfl rfl rfl (Nat.le_of_ble_eq_true rfl) (Nat.le_of_ble_eq_true rfl) (show decode mX7_loom.2.1 35 = .ok (.invokevirtual 85, 3) by decide +kernel) hd hR (fun r9 h2 hq => ?_)
      obtain ⟨rfl, hR⟩ := hq
      show xG _ _ _ 38 _ [] _ _
      refine x_iload_n (pc := 38) (show decode mX7_loom.2.1 38 = .ok (.iload_n 2, 1) by decide +kernel) rfl rfl ?_
      exact x_iret (pc := 39) rfl (show decode mX7_loom.2.1 39 = .ok (.ireturn, 1) by decide +kernel) ⟨_, rfl, hR⟩
    · replace hR := hR.2 hc
      refine x_bipush (pc := 11) (n := (-2)) (show decode mX7_loom.2.1 11 = .ok (.bipush (-2), 2) by decide +kernel) rfl ?_
      exact x_iret (pc := 13) rfl (show decode mX7_loom.2.1 13 = .ok (.ireturn, 1) by decide +kernel) ⟨_, rfl, hR⟩
set_option maxRecDepth 4000 in
theorem sg_X7_pin_0 {d : Nat} {x1 x2 x3 : Int} {h : xH} {Q : Int → xH → Prop} (hd : 1 ≤ d)
    (hR : cB wdC (d - 1) mX7_isRow [.inl x1] h (fun h1 => cB wdC (d - 1) mX3_isPinSlot [.inr (.inr 1), .inl x2] h1 (fun h2 => cB wdC (d - 1) mX7_isStitch [.inl x3] h2 (fun h3 => cB wdC (d - 1) mX7_anyDone [.inr (.inr 0)] h3 (fun h4 => Q (-3) h4) (fun h4 => cI wdC (d - 1) mX3_addPin [.inr (.inr 1), .inl x1, .inl x2, .inl x3] h4 (fun r6 h5 => Q r6 h5))) (fun h3 => Q (-2) h3)) (fun h2 => Q (-2) h2)) (fun h1 => Q (-2) h1)) :
    gI wdC d mX7_pin 0 [some (.inr (.inr 0)), some (.inl x1), some (.inl x2), some (.inl x3)] h Q := by
  unfold gI
  refine x_iload_n (pc := 0) (show decode mX7_pin.2.1 0 = .ok (.iload_n 1, 1) by decide +kernel) rfl rfl ?_
  refine x_callS (pc := 1) (As := [.inl x1]) (rest := []) (lk7_89 rfl) sm_X7_isRow (Nat.le_of_ble_eq_true rfl) (Nat.le_of_ble_eq_true rfl) (show decode mX7_pin.2.1 1 = .ok (.invokestatic 89, 3) by decide +kernel) hd hR (fun r9 h1 hq => ?_)
  obtain ⟨r8, rfl, hq⟩ := hq
  rcases hq with ⟨rfl, hR⟩ | ⟨rfl, hR⟩
  · show xG _ _ _ 4 _ [.inl 1] _ _
    refine x_if_eq (pc := 4) (tgt := 25) (show decode mX7_pin.2.1 4 = .ok (.ifCond .eq 21, 3) by decide +kernel) (by decide) (by unfold inI; decide) (fun hc => absurd hc (by decide)) (fun _ => ?_)
    refine x_aload_n (pc := 7) (show decode mX7_pin.2.1 7 = .ok (.aload_n 0, 1) by decide +kernel) rfl rfl ?_
    refine x_getR (pc := 8) f7_12 rfl rfl (show decode mX7_pin.2.1 8 = .ok (.getfield 12, 3) by decide +kernel) ?_
    refine x_iload_n (pc := 11) (show decode mX7_pin.2.1 11 = .ok (.iload_n 2, 1) by decide +kernel) rfl rfl ?_
    refine x_callV (pc := 12) (As := [.inl x2]) (rest := []) (lk7_93 rfl) im_X3_isPinSlot sl_X3_isPinSlot rfl rfl rfl (Nat.le_of_ble_eq_true rfl) (Nat.le_of_ble_eq_true rfl) (show decode mX7_pin.2.1 12 = .ok (.invokevirtual 93, 3) by decide +kernel) hd hR (fun r9 h2 hq => ?_)
    obtain ⟨r8, rfl, hq⟩ := hq
    rcases hq with ⟨rfl, hR⟩ | ⟨rfl, hR⟩
    · show xG _ _ _ 15 _ [.inl 1] _ _
      refine x_if_eq (pc := 15) (tgt := 25) (show decode mX7_pin.2.1 15 = .ok (.ifCond .eq 10, 3) by decide +kernel) (by decide) (by unfold inI; decide) (fun hc => absurd hc (by decide)) (fun _ => ?_)
      refine x_iload_n (pc := 18) (show decode mX7_pin.2.1 18 = .ok (.iload_n 3, 1) by decide +kernel) rfl rfl ?_
      refine x_callS (pc := 19) (As := [.inl x3]) (rest := []) (lk7_96 rfl) sm_X7_isStitch (Nat.le_of_ble_eq_true rfl) (Nat.le_of_ble_eq_true rfl) (show decode mX7_pin.2.1 19 = .ok (.invokestatic 96, 3) by decide +kernel) hd hR (fun r9 h3 hq => ?_)
      obtain ⟨r8, rfl, hq⟩ := hq
      rcases hq with ⟨rfl, hR⟩ | ⟨rfl, hR⟩
      · show xG _ _ _ 22 _ [.inl 1] _ _
        refine x_if_ne (pc := 22) (tgt := 28) (show decode mX7_pin.2.1 22 = .ok (.ifCond .ne 6, 3) by decide +kernel) (by decide) (by unfold inI; decide) (fun _ => ?_) (fun hc => absurd hc (by decide))
        refine x_aload_n (pc := 28) (show decode mX7_pin.2.1 28 = .ok (.aload_n 0, 1) by decide +kernel) rfl rfl ?_
        refine x_callV (pc := 29) (As := []) (rest := []) (lk7_99 rfl) im_X7_anyDone sl_X7_anyDone rfl rfl rfl (Nat.le_of_ble_eq_true rfl) (Nat.le_of_ble_eq_true rfl) (show decode mX7_pin.2.1 29 = .ok (.invokevirtual 99, 3) by decide +kernel) hd hR (fun r9 h4 hq => ?_)
        obtain ⟨r8, rfl, hq⟩ := hq
        rcases hq with ⟨rfl, hR⟩ | ⟨rfl, hR⟩
        · show xG _ _ _ 32 _ [.inl 1] _ _
          refine x_if_eq (pc := 32) (tgt := 38) (show decode mX7_pin.2.1 32 = .ok (.ifCond .eq 6, 3) by decide +kernel) (by decide) (by unfold inI; decide) (fun hc => absurd hc (by decide)) (fun _ => ?_)
          refine x_bipush (pc := 35) (n := (-3)) (show decode mX7_pin.2.1 35 = .ok (.bipush (-3), 2) by decide +kernel) rfl ?_
          exact x_iret (pc := 37) rfl (show decode mX7_pin.2.1 37 = .ok (.ireturn, 1) by decide +kernel) ⟨_, rfl, hR⟩
        · show xG _ _ _ 32 _ [.inl 0] _ _
          refine x_if_eq (pc := 32) (tgt := 38) (show decode mX7_pin.2.1 32 = .ok (.ifCond .eq 6, 3) by decide +kernel) (by decide) (by unfold inI; decide) (fun _ => ?_) (fun hc => absurd hc (by decide))
          refine x_aload_n (pc := 38) (show decode mX7_pin.2.1 38 = .ok (.aload_n 0, 1) by decide +kernel) rfl rfl ?_
          refine x_getR (pc := 39) f7_12 rfl rfl (show decode mX7_pin.2.1 39 = .ok (.getfield 12, 3) by decide +kernel) ?_
          refine x_iload_n (pc := 42) (show decode mX7_pin.2.1 42 = .ok (.iload_n 1, 1) by decide +kernel) rfl rfl ?_
          refine x_iload_n (pc := 43) (show decode mX7_pin.2.1 43 = .ok (.iload_n 2, 1) by decide +kernel) rfl rfl ?_
          refine x_iload_n (pc := 44) (show decode mX7_pin.2.1 44 = .ok (.iload_n 3, 1) by decide +kernel) rfl rfl ?_
          refine x_callV (pc := 45) (As := [.inl x1, .inl x2, .inl x3]) (rest := []) (lk7_103 rfl) im_X3_addPin sl_X3_addPin rfl rfl rfl (Nat.le_of_ble_eq_true rfl) (Nat.le_of_ble_eq_true rfl) (show decode mX7_pin.2.1 45 = .ok (.invokevirtual 103, 3) by decide +kernel) hd hR (fun r9 h5 hq => ?_)
          obtain ⟨r6, rfl, hR⟩ := hq
          show xG _ _ _ 48 _ [.inl r6] _ _
          exact x_iret (pc := 48) rfl (show decode mX7_pin.2.1 48 = .ok (.ireturn, 1) by decide +kernel) ⟨_, rfl, hR⟩
      · show xG _ _ _ 22 _ [.inl 0] _ _
        refine x_if_ne (pc := 22) (tgt := 28) (show decode mX7_pin.2.1 22 = .ok (.ifCond .ne 6, 3) by decide +kernel) (by decide) (by unfold inI; decide) (fun hc => absurd hc (by decide)) (fun _ => ?_)
        refine x_bipush (pc := 25) (n := (-2)) (show decode mX7_pin.2.1 25 = .ok (.bipush (-2), 2) by decide +kernel) rfl ?_
        exact x_iret (pc := 27) rfl (show decode mX7_pin.2.1 27 = .ok (.ireturn, 1) by decide +kernel) ⟨_, rfl, hR⟩
    · show xG _ _ _ 15 _ [.inl 0] _ _
      refine x_if_eq (pc := 15) (tgt := 25) (show decode mX7_pin.2.1 15 = .ok (.ifCond .eq 10, 3) by decide +kernel) (by decide) (by unfold inI; decide) (fun _ => ?_) (fun hc => absurd hc (by decide))
      refine x_bipush (pc := 25) (n := (-2)) (show decode mX7_pin.2.1 25 = .ok (.bipush (-2), 2) by decide +kernel) rfl ?_
      exact x_iret (pc := 27) rfl (show decode mX7_pin.2.1 27 = .ok (.ireturn, 1) by decide +kernel) ⟨_, rfl, hR⟩
  · show xG _ _ _ 4 _ [.inl 0] _ _
    refine x_if_eq (pc := 4) (tgt := 25) (show decode mX7_pin.2.1 4 = .ok (.ifCond .eq 21, 3) by decide +kernel) (by decide) (by unfold inI; decide) (fun _ => ?_) (fun hc => absurd hc (by decide))
    refine x_bipush (pc := 25) (n := (-2)) (show decode mX7_pin.2.1 25 = .ok (.bipush (-2), 2) by decide +kernel) rfl ?_
    exact x_iret (pc := 27) rfl (show decode mX7_pin.2.1 27 = .ok (.ireturn, 1) by decide +kernel) ⟨_, rfl, hR⟩
set_option maxRecDepth 4000 in
theorem sg_X7_drop_0 {d : Nat} {h : xH} {Q : Int → xH → Prop} (hd : 1 ≤ d)
    (hR : cB wdC (d - 1) mX7_anyDone [.inr (.inr 0)] h (fun h1 => Q (-3) h1) (fun h1 => (inI (h1 1 2)) ∧ (¬ (h1 1 2) = 0 → Q ((h1 1 2) - 1) (xu h1 1 2 ((h1 1 2) - 1))) ∧ ((h1 1 2) = 0 → Q (-3) h1))) :
    gI wdC d mX7_drop 0 [some (.inr (.inr 0))] h Q := by
  unfold gI
  refine x_aload_n (pc := 0) (show decode mX7_drop.2.1 0 = .ok (.aload_n 0, 1) by decide +kernel) rfl rfl ?_
  refine x_callV (pc := 1) (As := []) (rest := []) (lk7_99 rfl) im_X7_anyDone sl_X7_anyDone rfl rfl rfl (Nat.le_of_ble_eq_true rfl) (Nat.le_of_ble_eq_true rfl) (show decode mX7_drop.2.1 1 = .ok (.invokevirtual 99, 3) by decide +kernel) hd hR (fun r9 h1 hq => ?_)
  obtain ⟨r8, rfl, hq⟩ := hq
  rcases hq with ⟨rfl, hR⟩ | ⟨rfl, hR⟩
  · show xG _ _ _ 4 _ [.inl 1] _ _
    refine x_if_ne (pc := 4) (tgt := 17) (show decode mX7_drop.2.1 4 = .ok (.ifCond .ne 13, 3) by decide +kernel) (by decide) (by unfold inI; decide) (fun _ => ?_) (fun hc => absurd hc (by decide))
    refine x_bipush (pc := 17) (n := (-3)) (show decode mX7_drop.2.1 17 = .ok (.bipush (-3), 2) by decide +kernel) rfl ?_
    exact x_iret (pc := 19) rfl (show decode mX7_drop.2.1 19 = .ok (.ireturn, 1) by decide +kernel) ⟨_, rfl, hR⟩
  · show xG _ _ _ 4 _ [.inl 0] _ _
    refine x_if_ne (pc := 4) (tgt := 17) (show decode mX7_drop.2.1 4 = .ok (.ifCond .ne 13, 3) by decide +kernel) (by decide) (by unfold inI; decide) (fun hc => absurd hc (by decide)) (fun _ => ?_)
    refine x_aload_n (pc := 7) (show decode mX7_drop.2.1 7 = .ok (.aload_n 0, 1) by decide +kernel) rfl rfl ?_
    refine x_getR (pc := 8) f7_12 rfl rfl (show decode mX7_drop.2.1 8 = .ok (.getfield 12, 3) by decide +kernel) ?_
    refine x_getI (pc := 11) (ki := 2) f7_107 rfl rfl (by decide) rfl (show decode mX7_drop.2.1 11 = .ok (.getfield 107, 3) by decide +kernel) ?_
    obtain ⟨hg, hR⟩ := hR
    refine x_if_ne (pc := 14) (tgt := 20) (show decode mX7_drop.2.1 14 = .ok (.ifCond .ne 6, 3) by decide +kernel) (by decide) hg (fun hc => ?_) (fun hc => ?_)
    · replace hR := hR.1 hc
      refine x_aload_n (pc := 20) (show decode mX7_drop.2.1 20 = .ok (.aload_n 0, 1) by decide +kernel) rfl rfl ?_
      refine x_getR (pc := 21) f7_12 rfl rfl (show decode mX7_drop.2.1 21 = .ok (.getfield 12, 3) by decide +kernel) ?_
      refine x_dup (pc := 24) (show decode mX7_drop.2.1 24 = .ok (.dup, 1) by decide +kernel) rfl ?_
      refine x_getI (pc := 25) (ki := 2) f7_107 rfl rfl (by decide) rfl (show decode mX7_drop.2.1 25 = .ok (.getfield 107, 3) by decide +kernel) ?_
      refine x_iconst (pc := 28) (n := 1) (show decode mX7_drop.2.1 28 = .ok (.iconst 1, 1) by decide +kernel) ?_
      refine x_isub (pc := 29) (show decode mX7_drop.2.1 29 = .ok (.isub, 1) by decide +kernel) ?_
      refine x_putI (pc := 30) (ki := 2) f7_107 fp3_2 rfl rfl rfl (show decode mX7_drop.2.1 30 = .ok (.putfield 107, 3) by decide +kernel) ?_
      refine x_aload_n (pc := 33) (show decode mX7_drop.2.1 33 = .ok (.aload_n 0, 1) by decide +kernel) rfl rfl ?_
      refine x_getR (pc := 34) f7_12 rfl rfl (show decode mX7_drop.2.1 34 = .ok (.getfield 12, 3) by decide +kernel) ?_
      refine x_getI (pc := 37) (ki := 2) f7_107 rfl rfl (by decide) rfl (show decode mX7_drop.2.1 37 = .ok (.getfield 107, 3) by decide +kernel) ?_
      exact x_iret (pc := 40) rfl (show decode mX7_drop.2.1 40 = .ok (.ireturn, 1) by decide +kernel) ⟨_, rfl, hR⟩
    · replace hR := hR.2 hc
      refine x_bipush (pc := 17) (n := (-3)) (show decode mX7_drop.2.1 17 = .ok (.bipush (-3), 2) by decide +kernel) rfl ?_
      exact x_iret (pc := 19) rfl (show decode mX7_drop.2.1 19 = .ok (.ireturn, 1) by decide +kernel) ⟨_, rfl, hR⟩
set_option maxRecDepth 4000 in
theorem sg_X7_stitch_0 {d : Nat} {x1 x2 : Int} {h : xH} {Q : Int → xH → Prop} (hd : 1 ≤ d)
    (hR : cB wdC (d - 1) mX3_isPin [.inr (.inr 1), .inl x1] h (fun h1 => cB wdC (d - 1) mX7_isStitch [.inl x2] h1 (fun h2 => cB wdC (d - 1) mX7_anyDone [.inr (.inr 0)] h2 (fun h3 => Q (-3) h3) (fun h3 => (0 ≤ x1 ∧ x1 < 30) ∧ (0 ≤ x1 ∧ x1 < 30) ∧ Q (h3 4 x1) (xu h3 4 x1 x2))) (fun h2 => Q (-2) h2)) (fun h1 => Q (-1) h1)) :
    gI wdC d mX7_stitch 0 [some (.inr (.inr 0)), some (.inl x1), some (.inl x2), none] h Q := by
  unfold gI
  refine x_aload_n (pc := 0) (show decode mX7_stitch.2.1 0 = .ok (.aload_n 0, 1) by decide +kernel) rfl rfl ?_
  refine x_getR (pc := 1) f7_12 rfl rfl (show decode mX7_stitch.2.1 1 = .ok (.getfield 12, 3) by decide +kernel) ?_
  refine x_iload_n (pc := 4) (show decode mX7_stitch.2.1 4 = .ok (.iload_n 1, 1) by decide +kernel) rfl rfl ?_
  refine x_callV (pc := 5) (As := [.inl x1]) (rest := []) (lk7_110 rfl) im_X3_isPin sl_X3_isPin rfl rfl rfl (Nat.le_of_ble_eq_true rfl) (Nat.le_of_ble_eq_true rfl) (show decode mX7_stitch.2.1 5 = .ok (.invokevirtual 110, 3) by decide +kernel) hd hR (fun r9 h1 hq => ?_)
  obtain ⟨r8, rfl, hq⟩ := hq
  rcases hq with ⟨rfl, hR⟩ | ⟨rfl, hR⟩
  · show xG _ _ _ 8 _ [.inl 1] _ _
    refine x_if_ne (pc := 8) (tgt := 13) (show decode mX7_stitch.2.1 8 = .ok (.ifCond .ne 5, 3) by decide +kernel) (by decide) (by unfold inI; decide) (fun _ => ?_) (fun hc => absurd hc (by decide))
    refine x_iload_n (pc := 13) (show decode mX7_stitch.2.1 13 = .ok (.iload_n 2, 1) by decide +kernel) rfl rfl ?_
    refine x_callS (pc := 14) (As := [.inl x2]) (rest := []) (lk7_96 rfl) sm_X7_isStitch (Nat.le_of_ble_eq_true rfl) (Nat.le_of_ble_eq_true rfl) (show decode mX7_stitch.2.1 14 = .ok (.invokestatic 96, 3) by decide +kernel) hd hR (fun r9 h2 hq => ?_)
    obtain ⟨r8, rfl, hq⟩ := hq
    rcases hq with ⟨rfl, hR⟩ | ⟨rfl, hR⟩
    · show xG _ _ _ 17 _ [.inl 1] _ _
      refine x_if_ne (pc := 17) (tgt := 23) (show decode mX7_stitch.2.1 17 = .ok (.ifCond .ne 6, 3) by decide +kernel) (by decide) (by unfold inI; decide) (fun _ => ?_) (fun hc => absurd hc (by decide))
      refine x_aload_n (pc := 23) (show decode mX7_stitch.2.1 23 = .ok (.aload_n 0, 1) by decide +kernel) rfl rfl ?_
      refine x_callV (pc := 24) (As := []) (rest := []) (lk7_99 rfl) im_X7_anyDone sl_X7_anyDone rfl rfl rfl (Nat.le_of_ble_eq_true rfl) (Nat.le_of_ble_eq_true rfl) (show decode mX7_stitch.2.1 24 = .ok (.invokevirtual 99, 3) by decide +kernel) hd hR (fun r9 h3 hq => ?_)
      obtain ⟨r8, rfl, hq⟩ := hq
      rcases hq with ⟨rfl, hR⟩ | ⟨rfl, hR⟩
      · show xG _ _ _ 27 _ [.inl 1] _ _
        refine x_if_eq (pc := 27) (tgt := 33) (show decode mX7_stitch.2.1 27 = .ok (.ifCond .eq 6, 3) by decide +kernel) (by decide) (by unfold inI; decide) (fun hc => absurd hc (by decide)) (fun _ => ?_)
        refine x_bipush (pc := 30) (n := (-3)) (show decode mX7_stitch.2.1 30 = .ok (.bipush (-3), 2) by decide +kernel) rfl ?_
        exact x_iret (pc := 32) rfl (show decode mX7_stitch.2.1 32 = .ok (.ireturn, 1) by decide +kernel) ⟨_, rfl, hR⟩
      · show xG _ _ _ 27 _ [.inl 0] _ _
        refine x_if_eq (pc := 27) (tgt := 33) (show decode mX7_stitch.2.1 27 = .ok (.ifCond .eq 6, 3) by decide +kernel) (by decide) (by unfold inI; decide) (fun _ => ?_) (fun hc => absurd hc (by decide))
        refine x_aload_n (pc := 33) (show decode mX7_stitch.2.1 33 = .ok (.aload_n 0, 1) by decide +kernel) rfl rfl ?_
        refine x_getR (pc := 34) f7_12 rfl rfl (show decode mX7_stitch.2.1 34 = .ok (.getfield 12, 3) by decide +kernel) ?_
        refine x_getR (pc := 37) f7_113 rfl rfl (show decode mX7_stitch.2.1 37 = .ok (.getfield 113, 3) by decide +kernel) ?_
        refine x_iload_n (pc := 40) (show decode mX7_stitch.2.1 40 = .ok (.iload_n 1, 1) by decide +kernel) rfl rfl ?_
        obtain ⟨hg, hR⟩ := hR
        refine x_iald (pc := 41) rfl (by decide) hg (show decode mX7_stitch.2.1 41 = .ok (.iaload, 1) by decide +kernel) ?_
        refine x_istore_n (pc := 42) (ls' := [some (.inr (.inr 0)), some (.inl x1), some (.inl x2), some (.inl (h3 4 x1))]) (show decode mX7_stitch.2.1 42 = .ok (.istore_n 3, 1) by decide +kernel) rfl (by decide) rfl ?_
        refine x_aload_n (pc := 43) (show decode mX7_stitch.2.1 43 = .ok (.aload_n 0, 1) by decide +kernel) rfl rfl ?_
        refine x_getR (pc := 44) f7_12 rfl rfl (show decode mX7_stitch.2.1 44 = .ok (.getfield 12, 3) by decide +kernel) ?_
        refine x_getR (pc := 47) f7_113 rfl rfl (show decode mX7_stitch.2.1 47 = .ok (.getfield 113, 3) by decide +kernel) ?_
        refine x_iload_n (pc := 50) (show decode mX7_stitch.2.1 50 = .ok (.iload_n 1, 1) by decide +kernel) rfl rfl ?_
        refine x_iload_n (pc := 51) (show decode mX7_stitch.2.1 51 = .ok (.iload_n 2, 1) by decide +kernel) rfl rfl ?_
        obtain ⟨hg, hR⟩ := hR
        refine x_iast (pc := 52) rfl (by decide) hg (show decode mX7_stitch.2.1 52 = .ok (.iastore, 1) by decide +kernel) ?_
        refine x_iload_n (pc := 53) (show decode mX7_stitch.2.1 53 = .ok (.iload_n 3, 1) by decide +kernel) rfl rfl ?_
        exact x_iret (pc := 54) rfl (show decode mX7_stitch.2.1 54 = .ok (.ireturn, 1) by decide +kernel) ⟨_, rfl, hR⟩
    · show xG _ _ _ 17 _ [.inl 0] _ _
      refine x_if_ne (pc := 17) (tgt := 23) (show decode mX7_stitch.2.1 17 = .ok (.ifCond .ne 6, 3) by decide +kernel) (by decide) (by unfold inI; decide) (fun hc => absurd hc (by decide)) (fun _ => ?_)
      refine x_bipush (pc := 20) (n := (-2)) (show decode mX7_stitch.2.1 20 = .ok (.bipush (-2), 2) by decide +kernel) rfl ?_
      exact x_iret (pc := 22) rfl (show decode mX7_stitch.2.1 22 = .ok (.ireturn, 1) by decide +kernel) ⟨_, rfl, hR⟩
  · show xG _ _ _ 8 _ [.inl 0] _ _
    refine x_if_ne (pc := 8) (tgt := 13) (show decode mX7_stitch.2.1 8 = .ok (.ifCond .ne 5, 3) by decide +kernel) (by decide) (by unfold inI; decide) (fun hc => absurd hc (by decide)) (fun _ => ?_)
    refine x_iconst (pc := 11) (n := (-1)) (show decode mX7_stitch.2.1 11 = .ok (.iconst (-1), 1) by decide +kernel) ?_
    exact x_iret (pc := 12) rfl (show decode mX7_stitch.2.1 12 = .ok (.ireturn, 1) by decide +kernel) ⟨_, rfl, hR⟩
set_option maxRecDepth 4000 in
theorem sg_X7_of_0 {d : Nat} {x1 x2 : Int} {h : xH} {Q : Int → xH → Prop} (hd : 1 ≤ d)
    (hR : cB wdC (d - 1) mX3_isPin [.inr (.inr 1), .inl x1] h (fun h1 => inI x2 ∧ (x2 = 0 → (0 ≤ x1 ∧ x1 < 30) ∧ Q (h1 2 x1) h1) ∧ (x2 = 1 → (0 ≤ x1 ∧ x1 < 30) ∧ Q (h1 3 x1) h1) ∧ (x2 = 2 → (0 ≤ x1 ∧ x1 < 30) ∧ Q (h1 4 x1) h1) ∧ (x2 = 3 → cB wdC (d - 1) mX0_isDone [.inr (.inr 6), .inl x1] h1 (fun h2 => Q 1 h2) (fun h2 => Q 0 h2)) ∧ (x2 = 4 → cI wdC (d - 1) mX7_depthOf [.inr (.inr 0), .inl x1] h1 (fun r4 h3 => Q r4 h3)) ∧ (x2 = 5 → cB wdC (d - 1) mX3_lacksPair [.inr (.inr 1), .inl x1] h1 (fun h5 => Q 1 h5) (fun h5 => Q 0 h5)) ∧ ((x2 < 0 ∨ 5 < x2) → Q (-1) h1)) (fun h1 => Q (-1) h1)) :
    gI wdC d mX7_of 0 [some (.inr (.inr 0)), some (.inl x1), some (.inl x2)] h Q := by
  unfold gI
  refine x_aload_n (pc := 0) (show decode mX7_of.2.1 0 = .ok (.aload_n 0, 1) by decide +kernel) rfl rfl ?_
  refine x_getR (pc := 1) f7_12 rfl rfl (show decode mX7_of.2.1 1 = .ok (.getfield 12, 3) by decide +kernel) ?_
  refine x_iload_n (pc := 4) (show decode mX7_of.2.1 4 = .ok (.iload_n 1, 1) by decide +kernel) rfl rfl ?_
  refine x_callV (pc := 5) (As := [.inl x1]) (rest := []) (lk7_110 rfl) im_X3_isPin sl_X3_isPin rfl rfl rfl (Nat.le_of_ble_eq_true rfl) (Nat.le_of_ble_eq_true rfl) (show decode mX7_of.2.1 5 = .ok (.invokevirtual 110, 3) by decide +kernel) hd hR (fun r9 h1 hq => ?_)
  obtain ⟨r8, rfl, hq⟩ := hq
  rcases hq with ⟨rfl, hR⟩ | ⟨rfl, hR⟩
  · show xG _ _ _ 8 _ [.inl 1] _ _
    refine x_if_ne (pc := 8) (tgt := 13) (show decode mX7_of.2.1 8 = .ok (.ifCond .ne 5, 3) by decide +kernel) (by decide) (by unfold inI; decide) (fun _ => ?_) (fun hc => absurd hc (by decide))
    refine x_iload_n (pc := 13) (show decode mX7_of.2.1 13 = .ok (.iload_n 2, 1) by decide +kernel) rfl rfl ?_
    obtain ⟨hg, hR⟩ := hR
    rcases (show x2 = 0 ∨ x2 = 1 ∨ x2 = 2 ∨ x2 = 3 ∨ x2 = 4 ∨ x2 = 5 ∨ (x2 < 0 ∨ 5 < x2) by omega) with hc | hc | hc | hc | hc | hc | hc
    · replace hR := hR.1 hc
      refine x_tswAt (pc := 14) (n := 0) (tgt := 52) (show decode mX7_of.2.1 14 = .ok (.tableswitch 108 0 5 #[38, 48, 58, 68, 85, 91], 38) by decide +kernel) hg hc (by decide) rfl (by decide) ?_
      refine x_aload_n (pc := 52) (show decode mX7_of.2.1 52 = .ok (.aload_n 0, 1) by decide +kernel) rfl rfl ?_
      refine x_getR (pc := 53) f7_12 rfl rfl (show decode mX7_of.2.1 53 = .ok (.getfield 12, 3) by decide +kernel) ?_
      refine x_getR (pc := 56) f7_116 rfl rfl (show decode mX7_of.2.1 56 = .ok (.getfield 116, 3) by decide +kernel) ?_
      refine x_iload_n (pc := 59) (show decode mX7_of.2.1 59 = .ok (.iload_n 1, 1) by decide +kernel) rfl rfl ?_
      obtain ⟨hg, hR⟩ := hR
      refine x_iald (pc := 60) rfl (by decide) hg (show decode mX7_of.2.1 60 = .ok (.iaload, 1) by decide +kernel) ?_
      exact x_iret (pc := 61) rfl (show decode mX7_of.2.1 61 = .ok (.ireturn, 1) by decide +kernel) ⟨_, rfl, hR⟩
    · replace hR := hR.2.1 hc
      refine x_tswAt (pc := 14) (n := 1) (tgt := 62) (show decode mX7_of.2.1 14 = .ok (.tableswitch 108 0 5 #[38, 48, 58, 68, 85, 91], 38) by decide +kernel) hg hc (by decide) rfl (by decide) ?_
      refine x_aload_n (pc := 62) (show decode mX7_of.2.1 62 = .ok (.aload_n 0, 1) by decide +kernel) rfl rfl ?_
      refine x_getR (pc := 63) f7_12 rfl rfl (show decode mX7_of.2.1 63 = .ok (.getfield 12, 3) by decide +kernel) ?_
      refine x_getR (pc := 66) f7_119 rfl rfl (show decode mX7_of.2.1 66 = .ok (.getfield 119, 3) by decide +kernel) ?_
      refine x_iload_n (pc := 69) (show decode mX7_of.2.1 69 = .ok (.iload_n 1, 1) by decide +kernel) rfl rfl ?_
      obtain ⟨hg, hR⟩ := hR
      refine x_iald (pc := 70) rfl (by decide) hg (show decode mX7_of.2.1 70 = .ok (.iaload, 1) by decide +kernel) ?_
      exact x_iret (pc := 71) rfl (show decode mX7_of.2.1 71 = .ok (.ireturn, 1) by decide +kernel) ⟨_, rfl, hR⟩
    · replace hR := hR.2.2.1 hc
      refine x_tswAt (pc := 14) (n := 2) (tgt := 72) (show decode mX7_of.2.1 14 = .ok (.tableswitch 108 0 5 #[38, 48, 58, 68, 85, 91], 38) by decide +kernel) hg hc (by decide) rfl (by decide) ?_
      refine x_aload_n (pc := 72) (show decode mX7_of.2.1 72 = .ok (.aload_n 0, 1) by decide +kernel) rfl rfl ?_
      refine x_getR (pc := 73) f7_12 rfl rfl (show decode mX7_of.2.1 73 = .ok (.getfield 12, 3) by decide +kernel) ?_
      refine x_getR (pc := 76) f7_113 rfl rfl (show decode mX7_of.2.1 76 = .ok (.getfield 113, 3) by decide +kernel) ?_
      refine x_iload_n (pc := 79) (show decode mX7_of.2.1 79 = .ok (.iload_n 1, 1) by decide +kernel) rfl rfl ?_
      obtain ⟨hg, hR⟩ := hR
      refine x_iald (pc := 80) rfl (by decide) hg (show decode mX7_of.2.1 80 = .ok (.iaload, 1) by decide +kernel) ?_
      exact x_iret (pc := 81) rfl (show decode mX7_of.2.1 81 = .ok (.ireturn, 1) by decide +kernel) ⟨_, rfl, hR⟩
    · replace hR := hR.2.2.2.1 hc
      refine x_tswAt (pc := 14) (n := 3) (tgt := 82) (show decode mX7_of.2.1 14 = .ok (.tableswitch 108 0 5 #[38, 48, 58, 68, 85, 91], 38) by decide +kernel) hg hc (by decide) rfl (by decide) ?_
      refine x_aload_n (pc := 82) (show decode mX7_of.2.1 82 = .ok (.aload_n 0, 1) by decide +kernel) rfl rfl ?_
      refine x_getR (pc := 83) f7_21 rfl rfl (show decode mX7_of.2.1 83 = .ok (.getfield 21, 3) by decide +kernel) ?_
      refine x_iload_n (pc := 86) (show decode mX7_of.2.1 86 = .ok (.iload_n 1, 1) by decide +kernel) rfl rfl ?_
      refine x_callV (pc := 87) (As := [.inl x1]) (rest := []) (lk7_122 rfl) im_X0_isDone sl_X0_isDone rfl rfl rfl (Nat.le_of_ble_eq_true rfl) (Nat.le_of_ble_eq_true rfl) (show decode mX7_of.2.1 87 = .ok (.invokevirtual 122, 3) by decide +kernel) hd hR (fun r9 h2 hq => ?_)
      obtain ⟨r8, rfl, hq⟩ := hq
      rcases hq with ⟨rfl, hR⟩ | ⟨rfl, hR⟩
      · show xG _ _ _ 90 _ [.inl 1] _ _
        refine x_if_eq (pc := 90) (tgt := 97) (show decode mX7_of.2.1 90 = .ok (.ifCond .eq 7, 3) by decide +kernel) (by decide) (by unfold inI; decide) (fun hc => absurd hc (by decide)) (fun _ => ?_)
        refine x_iconst (pc := 93) (n := 1) (show decode mX7_of.2.1 93 = .ok (.iconst 1, 1) by decide +kernel) ?_
        refine x_goto (pc := 94) (tgt := 98) (show decode mX7_of.2.1 94 = .ok (.goto 4, 3) by decide +kernel) (by decide) ?_
        exact x_iret (pc := 98) rfl (show decode mX7_of.2.1 98 = .ok (.ireturn, 1) by decide +kernel) ⟨_, rfl, hR⟩
      · show xG _ _ _ 90 _ [.inl 0] _ _
        refine x_if_eq (pc := 90) (tgt := 97) (show decode mX7_of.2.1 90 = .ok (.ifCond .eq 7, 3) by decide +kernel) (by decide) (by unfold inI; decide) (fun _ => ?_) (fun hc => absurd hc (by decide))
        refine x_iconst (pc := 97) (n := 0) (show decode mX7_of.2.1 97 = .ok (.iconst 0, 1) by decide +kernel) ?_
        exact x_iret (pc := 98) rfl (show decode mX7_of.2.1 98 = .ok (.ireturn, 1) by decide +kernel) ⟨_, rfl, hR⟩
    · replace hR := hR.2.2.2.2.1 hc
      refine x_tswAt (pc := 14) (n := 4) (tgt := 99) (show decode mX7_of.2.1 14 = .ok (.tableswitch 108 0 5 #[38, 48, 58, 68, 85, 91], 38) by decide +kernel) hg hc (by decide) rfl (by decide) ?_
      refine x_aload_n (pc := 99) (show decode mX7_of.2.1 99 = .ok (.aload_n 0, 1) by decide +kernel) rfl rfl ?_
      refine x_iload_n (pc := 100) (show decode mX7_of.2.1 100 = .ok (.iload_n 1, 1) by decide +kernel) rfl rfl ?_
      refine x_callV (pc := 101) (As := [.inl x1]) (rest := []) (lk7_125 rfl) im_X7_depthOf sl_X7_depthOf rfl rfl rfl (Nat.le_of_ble_eq_true rfl) (Nat.le_of_ble_eq_true rfl) (show decode mX7_of.2.1 101 = .ok (.invokevirtual 125, 3) by decide +kernel) hd hR (fun r9 h3 hq => ?_)
      obtain ⟨r4, rfl, hR⟩ := hq
      show xG _ _ _ 104 _ [.inl r4] _ _
      exact x_iret (pc := 104) rfl (show decode mX7_of.2.1 104 = .ok (.ireturn, 1) by decide +kernel) ⟨_, rfl, hR⟩
    · replace hR := hR.2.2.2.2.2.1 hc
      refine x_tswAt (pc := 14) (n := 5) (tgt := 105) (show decode mX7_of.2.1 14 = .ok (.tableswitch 108 0 5 #[38, 48, 58, 68, 85, 91], 38) by decide +kernel) hg hc (by decide) rfl (by decide) ?_
      refine x_aload_n (pc := 105) (show decode mX7_of.2.1 105 = .ok (.aload_n 0, 1) by decide +kernel) rfl rfl ?_
      refine x_getR (pc := 106) f7_12 rfl rfl (show decode mX7_of.2.1 106 = .ok (.getfield 12, 3) by decide +kernel) ?_
      refine x_iload_n (pc := 109) (show decode mX7_of.2.1 109 = .ok (.iload_n 1, 1) by decide +kernel) rfl rfl ?_
      refine x_callV (pc := 110) (As := [.inl x1]) (rest := []) (lk7_129 rfl) im_X3_lacksPair sl_X3_lacksPair rfl rfl rfl (Nat.le_of_ble_eq_true rfl) (Nat.le_of_ble_eq_true rfl) (show decode mX7_of.2.1 110 = .ok (.invokevirtual 129, 3) by decide +kernel) hd hR (fun r9 h5 hq => ?_)
      obtain ⟨r8, rfl, hq⟩ := hq
      rcases hq with ⟨rfl, hR⟩ | ⟨rfl, hR⟩
      · show xG _ _ _ 113 _ [.inl 1] _ _
        refine x_if_eq (pc := 113) (tgt := 120) (show decode mX7_of.2.1 113 = .ok (.ifCond .eq 7, 3) by decide +kernel) (by decide) (by unfold inI; decide) (fun hc => absurd hc (by decide)) (fun _ => ?_)
        refine x_iconst (pc := 116) (n := 1) (show decode mX7_of.2.1 116 = .ok (.iconst 1, 1) by decide +kernel) ?_
        refine x_goto (pc := 117) (tgt := 121) (show decode mX7_of.2.1 117 = .ok (.goto 4, 3) by decide +kernel) (by decide) ?_
        exact x_iret (pc := 121) rfl (show decode mX7_of.2.1 121 = .ok (.ireturn, 1) by decide +kernel) ⟨_, rfl, hR⟩
      · show xG _ _ _ 113 _ [.inl 0] _ _
        refine x_if_eq (pc := 113) (tgt := 120) (show decode mX7_of.2.1 113 = .ok (.ifCond .eq 7, 3) by decide +kernel) (by decide) (by unfold inI; decide) (fun _ => ?_) (fun hc => absurd hc (by decide))
        refine x_iconst (pc := 120) (n := 0) (show decode mX7_of.2.1 120 = .ok (.iconst 0, 1) by decide +kernel) ?_
        exact x_iret (pc := 121) rfl (show decode mX7_of.2.1 121 = .ok (.ireturn, 1) by decide +kernel) ⟨_, rfl, hR⟩
    · replace hR := hR.2.2.2.2.2.2 hc
      refine x_tswOut (pc := 14) (tgt := 122) (show decode mX7_of.2.1 14 = .ok (.tableswitch 108 0 5 #[38, 48, 58, 68, 85, 91], 38) by decide +kernel) hg hc (by decide) ?_
      refine x_iconst (pc := 122) (n := (-1)) (show decode mX7_of.2.1 122 = .ok (.iconst (-1), 1) by decide +kernel) ?_
      exact x_iret (pc := 123) rfl (show decode mX7_of.2.1 123 = .ok (.ireturn, 1) by decide +kernel) ⟨_, rfl, hR⟩
  · show xG _ _ _ 8 _ [.inl 0] _ _
    refine x_if_ne (pc := 8) (tgt := 13) (show decode mX7_of.2.1 8 = .ok (.ifCond .ne 5, 3) by decide +kernel) (by decide) (by unfold inI; decide) (fun hc => absurd hc (by decide)) (fun _ => ?_)
    refine x_iconst (pc := 11) (n := (-1)) (show decode mX7_of.2.1 11 = .ok (.iconst (-1), 1) by decide +kernel) ?_
    exact x_iret (pc := 12) rfl (show decode mX7_of.2.1 12 = .ok (.ireturn, 1) by decide +kernel) ⟨_, rfl, hR⟩
set_option maxRecDepth 4000 in
theorem sg_X7_fill_0 {d : Nat} {x1 x2 : Int} {h : xH} {Q : Int → xH → Prop} (hd : 1 ≤ d)
    (hR : cB wdC (d - 1) mX3_isSlot [.inr (.inr 1), .inl x1] h (fun h1 => cB wdC (d - 1) mX7_anyDone [.inr (.inr 0)] h1 (fun h2 => Q (-3) h2) (fun h2 => cI wdC (d - 1) mX3_fillAtFirst [.inr (.inr 1), .inl x1, .inl x2] h2 (fun r4 h3 => Q r4 h3))) (fun h1 => Q (-1) h1)) :
    gI wdC d mX7_fill 0 [some (.inr (.inr 0)), some (.inl x1), some (.inl x2)] h Q := by
  unfold gI
  refine x_aload_n (pc := 0) (show decode mX7_fill.2.1 0 = .ok (.aload_n 0, 1) by decide +kernel) rfl rfl ?_
  refine x_getR (pc := 1) f7_12 rfl rfl (show decode mX7_fill.2.1 1 = .ok (.getfield 12, 3) by decide +kernel) ?_
  refine x_iload_n (pc := 4) (show decode mX7_fill.2.1 4 = .ok (.iload_n 1, 1) by decide +kernel) rfl rfl ?_
  refine x_callV (pc := 5) (As := [.inl x1]) (rest := []) (lk7_132 rfl) im_X3_isSlot sl_X3_isSlot rfl rfl rfl (Nat.le_of_ble_eq_true rfl) (Nat.le_of_ble_eq_true rfl) (show decode mX7_fill.2.1 5 = .ok (.invokevirtual 132, 3) by decide +kernel) hd hR (fun r9 h1 hq => ?_)
  obtain ⟨r8, rfl, hq⟩ := hq
  rcases hq with ⟨rfl, hR⟩ | ⟨rfl, hR⟩
  · show xG _ _ _ 8 _ [.inl 1] _ _
    refine x_if_ne (pc := 8) (tgt := 13) (show decode mX7_fill.2.1 8 = .ok (.ifCond .ne 5, 3) by decide +kernel) (by decide) (by unfold inI; decide) (fun _ => ?_) (fun hc => absurd hc (by decide))
    refine x_aload_n (pc := 13) (show decode mX7_fill.2.1 13 = .ok (.aload_n 0, 1) by decide +kernel) rfl rfl ?_
    refine x_callV (pc := 14) (As := []) (rest := []) (lk7_99 rfl) im_X7_anyDone sl_X7_anyDone rfl rfl rfl (Nat.le_of_ble_eq_true rfl) (Nat.le_of_ble_eq_true rfl) (show decode mX7_fill.2.1 14 = .ok (.invokevirtual 99, 3) by decide +kernel) hd hR (fun r9 h2 hq => ?_)
    obtain ⟨r8, rfl, hq⟩ := hq
    rcases hq with ⟨rfl, hR⟩ | ⟨rfl, hR⟩
    · show xG _ _ _ 17 _ [.inl 1] _ _
      refine x_if_eq (pc := 17) (tgt := 23) (show decode mX7_fill.2.1 17 = .ok (.ifCond .eq 6, 3) by decide +kernel) (by decide) (by unfold inI; decide) (fun hc => absurd hc (by decide)) (fun _ => ?_)
      refine x_bipush (pc := 20) (n := (-3)) (show decode mX7_fill.2.1 20 = .ok (.bipush (-3), 2) by decide +kernel) rfl ?_
      exact x_iret (pc := 22) rfl (show decode mX7_fill.2.1 22 = .ok (.ireturn, 1) by decide +kernel) ⟨_, rfl, hR⟩
    · show xG _ _ _ 17 _ [.inl 0] _ _
      refine x_if_eq (pc := 17) (tgt := 23) (show decode mX7_fill.2.1 17 = .ok (.ifCond .eq 6, 3) by decide +kernel) (by decide) (by unfold inI; decide) (fun _ => ?_) (fun hc => absurd hc (by decide))
      refine x_aload_n (pc := 23) (show decode mX7_fill.2.1 23 = .ok (.aload_n 0, 1) by decide +kernel) rfl rfl ?_
      refine x_getR (pc := 24) f7_12 rfl rfl (show decode mX7_fill.2.1 24 = .ok (.getfield 12, 3) by decide +kernel) ?_
      refine x_iload_n (pc := 27) (show decode mX7_fill.2.1 27 = .ok (.iload_n 1, 1) by decide +kernel) rfl rfl ?_
      refine x_iload_n (pc := 28) (show decode mX7_fill.2.1 28 = .ok (.iload_n 2, 1) by decide +kernel) rfl rfl ?_
      refine x_callV (pc := 29) (As := [.inl x1, .inl x2]) (rest := []) (lk7_135 rfl) im_X3_fillAtFirst sl_X3_fillAtFirst rfl rfl rfl (Nat.le_of_ble_eq_true rfl) (Nat.le_of_ble_eq_true rfl) (show decode mX7_fill.2.1 29 = .ok (.invokevirtual 135, 3) by decide +kernel) hd hR (fun r9 h3 hq => ?_)
      obtain ⟨r4, rfl, hR⟩ := hq
      show xG _ _ _ 32 _ [.inl r4] _ _
      exact x_iret (pc := 32) rfl (show decode mX7_fill.2.1 32 = .ok (.ireturn, 1) by decide +kernel) ⟨_, rfl, hR⟩
  · show xG _ _ _ 8 _ [.inl 0] _ _
    refine x_if_ne (pc := 8) (tgt := 13) (show decode mX7_fill.2.1 8 = .ok (.ifCond .ne 5, 3) by decide +kernel) (by decide) (by unfold inI; decide) (fun hc => absurd hc (by decide)) (fun _ => ?_)
    refine x_iconst (pc := 11) (n := (-1)) (show decode mX7_fill.2.1 11 = .ok (.iconst (-1), 1) by decide +kernel) ?_
    exact x_iret (pc := 12) rfl (show decode mX7_fill.2.1 12 = .ok (.ireturn, 1) by decide +kernel) ⟨_, rfl, hR⟩
set_option maxRecDepth 4000 in
theorem sg_X7_turn_0 {d : Nat} {x1 x2 : Int} {h : xH} {Q : Int → xH → Prop} (hd : 1 ≤ d)
    (hR : cB wdC (d - 1) mX3_isSlot [.inr (.inr 1), .inl x1] h (fun h1 => cB wdC (d - 1) mX7_isRow [.inl x2] h1 (fun h2 => cB wdC (d - 1) mX7_anyDone [.inr (.inr 0)] h2 (fun h3 => Q (-3) h3) (fun h3 => cI wdC (d - 1) mX3_turnAt [.inr (.inr 1), .inl x1, .inl x2] h3 (fun r5 h4 => Q r5 h4))) (fun h2 => Q (-2) h2)) (fun h1 => Q (-1) h1)) :
    gI wdC d mX7_turn 0 [some (.inr (.inr 0)), some (.inl x1), some (.inl x2)] h Q := by
  unfold gI
  refine x_aload_n (pc := 0) (show decode mX7_turn.2.1 0 = .ok (.aload_n 0, 1) by decide +kernel) rfl rfl ?_
  refine x_getR (pc := 1) f7_12 rfl rfl (show decode mX7_turn.2.1 1 = .ok (.getfield 12, 3) by decide +kernel) ?_
  refine x_iload_n (pc := 4) (show decode mX7_turn.2.1 4 = .ok (.iload_n 1, 1) by decide +kernel) rfl rfl ?_
  refine x_callV (pc := 5) (As := [.inl x1]) (rest := []) (lk7_132 rfl) im_X3_isSlot sl_X3_isSlot rfl rfl rfl (Nat.le_of_ble_eq_true rfl) (Nat.le_of_ble_eq_true rfl) (show decode mX7_turn.2.1 5 = .ok (.invokevirtual 132, 3) by decide +kernel) hd hR (fun r9 h1 hq => ?_)
  obtain ⟨r8, rfl, hq⟩ := hq
  rcases hq with ⟨rfl, hR⟩ | ⟨rfl, hR⟩
  · show xG _ _ _ 8 _ [.inl 1] _ _
    refine x_if_ne (pc := 8) (tgt := 13) (show decode mX7_turn.2.1 8 = .ok (.ifCond .ne 5, 3) by decide +kernel) (by decide) (by unfold inI; decide) (fun _ => ?_) (fun hc => absurd hc (by decide))
    refine x_iload_n (pc := 13) (show decode mX7_turn.2.1 13 = .ok (.iload_n 2, 1) by decide +kernel) rfl rfl ?_
    refine x_callS (pc := 14) (As := [.inl x2]) (rest := []) (lk7_89 rfl) sm_X7_isRow (Nat.le_of_ble_eq_true rfl) (Nat.le_of_ble_eq_true rfl) (show decode mX7_turn.2.1 14 = .ok (.invokestatic 89, 3) by decide +kernel) hd hR (fun r9 h2 hq => ?_)
    obtain ⟨r8, rfl, hq⟩ := hq
    rcases hq with ⟨rfl, hR⟩ | ⟨rfl, hR⟩
    · show xG _ _ _ 17 _ [.inl 1] _ _
      refine x_if_ne (pc := 17) (tgt := 23) (show decode mX7_turn.2.1 17 = .ok (.ifCond .ne 6, 3) by decide +kernel) (by decide) (by unfold inI; decide) (fun _ => ?_) (fun hc => absurd hc (by decide))
      refine x_aload_n (pc := 23) (show decode mX7_turn.2.1 23 = .ok (.aload_n 0, 1) by decide +kernel) rfl rfl ?_
      refine x_callV (pc := 24) (As := []) (rest := []) (lk7_99 rfl) im_X7_anyDone sl_X7_anyDone rfl rfl rfl (Nat.le_of_ble_eq_true rfl) (Nat.le_of_ble_eq_true rfl) (show decode mX7_turn.2.1 24 = .ok (.invokevirtual 99, 3) by decide +kernel) hd hR (fun r9 h3 hq => ?_)
      obtain ⟨r8, rfl, hq⟩ := hq
      rcases hq with ⟨rfl, hR⟩ | ⟨rfl, hR⟩
      · show xG _ _ _ 27 _ [.inl 1] _ _
        refine x_if_eq (pc := 27) (tgt := 33) (show decode mX7_turn.2.1 27 = .ok (.ifCond .eq 6, 3) by decide +kernel) (by decide) (by unfold inI; decide) (fun hc => absurd hc (by decide)) (fun _ => ?_)
        refine x_bipush (pc := 30) (n := (-3)) (show decode mX7_turn.2.1 30 = .ok (.bipush (-3), 2) by decide +kernel) rfl ?_
        exact x_iret (pc := 32) rfl (show decode mX7_turn.2.1 32 = .ok (.ireturn, 1) by decide +kernel) ⟨_, rfl, hR⟩
      · show xG _ _ _ 27 _ [.inl 0] _ _
        refine x_if_eq (pc := 27) (tgt := 33) (show decode mX7_turn.2.1 27 = .ok (.ifCond .eq 6, 3) by decide +kernel) (by decide) (by unfold inI; decide) (fun _ => ?_) (fun hc => absurd hc (by decide))
        refine x_aload_n (pc := 33) (show decode mX7_turn.2.1 33 = .ok (.aload_n 0, 1) by decide +kernel) rfl rfl ?_
        refine x_getR (pc := 34) f7_12 rfl rfl (show decode mX7_turn.2.1 34 = .ok (.getfield 12, 3) by decide +kernel) ?_
        refine x_iload_n (pc := 37) (show decode mX7_turn.2.1 37 = .ok (.iload_n 1, 1) by decide +kernel) rfl rfl ?_
        refine x_iload_n (pc := 38) (show decode mX7_turn.2.1 38 = .ok (.iload_n 2, 1) by decide +kernel) rfl rfl ?_
        refine x_callV (pc := 39) (As := [.inl x1, .inl x2]) (rest := []) (lk7_139 rfl) im_X3_turnAt sl_X3_turnAt rfl rfl rfl (Nat.le_of_ble_eq_true rfl) (Nat.le_of_ble_eq_true rfl) (show decode mX7_turn.2.1 39 = .ok (.invokevirtual 139, 3) by decide +kernel) hd hR (fun r9 h4 hq => ?_)
        obtain ⟨r5, rfl, hR⟩ := hq
        show xG _ _ _ 42 _ [.inl r5] _ _
        exact x_iret (pc := 42) rfl (show decode mX7_turn.2.1 42 = .ok (.ireturn, 1) by decide +kernel) ⟨_, rfl, hR⟩
    · show xG _ _ _ 17 _ [.inl 0] _ _
      refine x_if_ne (pc := 17) (tgt := 23) (show decode mX7_turn.2.1 17 = .ok (.ifCond .ne 6, 3) by decide +kernel) (by decide) (by unfold inI; decide) (fun hc => absurd hc (by decide)) (fun _ => ?_)
      refine x_bipush (pc := 20) (n := (-2)) (show decode mX7_turn.2.1 20 = .ok (.bipush (-2), 2) by decide +kernel) rfl ?_
      exact x_iret (pc := 22) rfl (show decode mX7_turn.2.1 22 = .ok (.ireturn, 1) by decide +kernel) ⟨_, rfl, hR⟩
  · show xG _ _ _ 8 _ [.inl 0] _ _
    refine x_if_ne (pc := 8) (tgt := 13) (show decode mX7_turn.2.1 8 = .ok (.ifCond .ne 5, 3) by decide +kernel) (by decide) (by unfold inI; decide) (fun hc => absurd hc (by decide)) (fun _ => ?_)
    refine x_iconst (pc := 11) (n := (-1)) (show decode mX7_turn.2.1 11 = .ok (.iconst (-1), 1) by decide +kernel) ?_
    exact x_iret (pc := 12) rfl (show decode mX7_turn.2.1 12 = .ok (.ireturn, 1) by decide +kernel) ⟨_, rfl, hR⟩
set_option maxRecDepth 4000 in
theorem sg_X7_filled_0 {d : Nat} {x1 x2 : Int} {h : xH} {Q : Int → xH → Prop} (hd : 1 ≤ d)
    (hR : cB wdC (d - 1) mX3_isSlot [.inr (.inr 1), .inl x1] h (fun h1 => cB wdC (d - 1) mX7_isRow [.inl x2] h1 (fun h2 => cB wdC (d - 1) mX3_isFilled [.inr (.inr 1), .inl x1, .inl x2] h2 (fun h3 => Q 1 h3) (fun h3 => Q 0 h3)) (fun h2 => Q (-2) h2)) (fun h1 => Q (-1) h1)) :
    gI wdC d mX7_filled 0 [some (.inr (.inr 0)), some (.inl x1), some (.inl x2)] h Q := by
  unfold gI
  refine x_aload_n (pc := 0) (show decode mX7_filled.2.1 0 = .ok (.aload_n 0, 1) by decide +kernel) rfl rfl ?_
  refine x_getR (pc := 1) f7_12 rfl rfl (show decode mX7_filled.2.1 1 = .ok (.getfield 12, 3) by decide +kernel) ?_
  refine x_iload_n (pc := 4) (show decode mX7_filled.2.1 4 = .ok (.iload_n 1, 1) by decide +kernel) rfl rfl ?_
  refine x_callV (pc := 5) (As := [.inl x1]) (rest := []) (lk7_132 rfl) im_X3_isSlot sl_X3_isSlot rfl rfl rfl (Nat.le_of_ble_eq_true rfl) (Nat.le_of_ble_eq_true rfl) (show decode mX7_filled.2.1 5 = .ok (.invokevirtual 132, 3) by decide +kernel) hd hR (fun r9 h1 hq => ?_)
  obtain ⟨r8, rfl, hq⟩ := hq
  rcases hq with ⟨rfl, hR⟩ | ⟨rfl, hR⟩
  · show xG _ _ _ 8 _ [.inl 1] _ _
    refine x_if_ne (pc := 8) (tgt := 13) (show decode mX7_filled.2.1 8 = .ok (.ifCond .ne 5, 3) by decide +kernel) (by decide) (by unfold inI; decide) (fun _ => ?_) (fun hc => absurd hc (by decide))
    refine x_iload_n (pc := 13) (show decode mX7_filled.2.1 13 = .ok (.iload_n 2, 1) by decide +kernel) rfl rfl ?_
    refine x_callS (pc := 14) (As := [.inl x2]) (rest := []) (lk7_89 rfl) sm_X7_isRow (Nat.le_of_ble_eq_true rfl) (Nat.le_of_ble_eq_true rfl) (show decode mX7_filled.2.1 14 = .ok (.invokestatic 89, 3) by decide +kernel) hd hR (fun r9 h2 hq => ?_)
    obtain ⟨r8, rfl, hq⟩ := hq
    rcases hq with ⟨rfl, hR⟩ | ⟨rfl, hR⟩
    · show xG _ _ _ 17 _ [.inl 1] _ _
      refine x_if_ne (pc := 17) (tgt := 23) (show decode mX7_filled.2.1 17 = .ok (.ifCond .ne 6, 3) by decide +kernel) (by decide) (by unfold inI; decide) (fun _ => ?_) (fun hc => absurd hc (by decide))
      refine x_aload_n (pc := 23) (show decode mX7_filled.2.1 23 = .ok (.aload_n 0, 1) by decide +kernel) rfl rfl ?_
      refine x_getR (pc := 24) f7_12 rfl rfl (show decode mX7_filled.2.1 24 = .ok (.getfield 12, 3) by decide +kernel) ?_
      refine x_iload_n (pc := 27) (show decode mX7_filled.2.1 27 = .ok (.iload_n 1, 1) by decide +kernel) rfl rfl ?_
      refine x_iload_n (pc := 28) (show decode mX7_filled.2.1 28 = .ok (.iload_n 2, 1) by decide +kernel) rfl rfl ?_
      refine x_callV (pc := 29) (As := [.inl x1, .inl x2]) (rest := []) (lk7_143 rfl) im_X3_isFilled sl_X3_isFilled rfl rfl rfl (Nat.le_of_ble_eq_true rfl) (Nat.le_of_ble_eq_true rfl) (show decode mX7_filled.2.1 29 = .ok (.invokevirtual 143, 3) by decide +kernel) hd hR (fun r9 h3 hq => ?_)
      obtain ⟨r8, rfl, hq⟩ := hq
      rcases hq with ⟨rfl, hR⟩ | ⟨rfl, hR⟩
      · show xG _ _ _ 32 _ [.inl 1] _ _
        refine x_if_eq (pc := 32) (tgt := 39) (show decode mX7_filled.2.1 32 = .ok (.ifCond .eq 7, 3) by decide +kernel) (by decide) (by unfold inI; decide) (fun hc => absurd hc (by decide)) (fun _ => ?_)
        refine x_iconst (pc := 35) (n := 1) (show decode mX7_filled.2.1 35 = .ok (.iconst 1, 1) by decide +kernel) ?_
        refine x_goto (pc := 36) (tgt := 40) (show decode mX7_filled.2.1 36 = .ok (.goto 4, 3) by decide +kernel) (by decide) ?_
        exact x_iret (pc := 40) rfl (show decode mX7_filled.2.1 40 = .ok (.ireturn, 1) by decide +kernel) ⟨_, rfl, hR⟩
      · show xG _ _ _ 32 _ [.inl 0] _ _
        refine x_if_eq (pc := 32) (tgt := 39) (show decode mX7_filled.2.1 32 = .ok (.ifCond .eq 7, 3) by decide +kernel) (by decide) (by unfold inI; decide) (fun _ => ?_) (fun hc => absurd hc (by decide))
        refine x_iconst (pc := 39) (n := 0) (show decode mX7_filled.2.1 39 = .ok (.iconst 0, 1) by decide +kernel) ?_
        exact x_iret (pc := 40) rfl (show decode mX7_filled.2.1 40 = .ok (.ireturn, 1) by decide +kernel) ⟨_, rfl, hR⟩
    · show xG _ _ _ 17 _ [.inl 0] _ _
      refine x_if_ne (pc := 17) (tgt := 23) (show decode mX7_filled.2.1 17 = .ok (.ifCond .ne 6, 3) by decide +kernel) (by decide) (by unfold inI; decide) (fun hc => absurd hc (by decide)) (fun _ => ?_)
      refine x_bipush (pc := 20) (n := (-2)) (show decode mX7_filled.2.1 20 = .ok (.bipush (-2), 2) by decide +kernel) rfl ?_
      exact x_iret (pc := 22) rfl (show decode mX7_filled.2.1 22 = .ok (.ireturn, 1) by decide +kernel) ⟨_, rfl, hR⟩
  · show xG _ _ _ 8 _ [.inl 0] _ _
    refine x_if_ne (pc := 8) (tgt := 13) (show decode mX7_filled.2.1 8 = .ok (.ifCond .ne 5, 3) by decide +kernel) (by decide) (by unfold inI; decide) (fun hc => absurd hc (by decide)) (fun _ => ?_)
    refine x_iconst (pc := 11) (n := (-1)) (show decode mX7_filled.2.1 11 = .ok (.iconst (-1), 1) by decide +kernel) ?_
    exact x_iret (pc := 12) rfl (show decode mX7_filled.2.1 12 = .ok (.ireturn, 1) by decide +kernel) ⟨_, rfl, hR⟩
set_option maxRecDepth 4000 in
theorem sg_X7_mirror_0 {d : Nat} {h : xH} {Q : Int → xH → Prop} (hd : 1 ≤ d)
    (hR : cB wdC (d - 1) mX7_anyDone [.inr (.inr 0)] h (fun h1 => Q (-3) h1) (fun h1 => cV wdC (d - 1) mX3_flip [.inr (.inr 1)] h1 (fun h2 => Q (h2 1 2) h2))) :
    gI wdC d mX7_mirror 0 [some (.inr (.inr 0))] h Q := by
  unfold gI
  refine x_aload_n (pc := 0) (show decode mX7_mirror.2.1 0 = .ok (.aload_n 0, 1) by decide +kernel) rfl rfl ?_
  refine x_callV (pc := 1) (As := []) (rest := []) (lk7_99 rfl) im_X7_anyDone sl_X7_anyDone rfl rfl rfl (Nat.le_of_ble_eq_true rfl) (Nat.le_of_ble_eq_true rfl) (show decode mX7_mirror.2.1 1 = .ok (.invokevirtual 99, 3) by decide +kernel) hd hR (fun r9 h1 hq => ?_)
  obtain ⟨r8, rfl, hq⟩ := hq
  rcases hq with ⟨rfl, hR⟩ | ⟨rfl, hR⟩
  · show xG _ _ _ 4 _ [.inl 1] _ _
    refine x_if_eq (pc := 4) (tgt := 10) (show decode mX7_mirror.2.1 4 = .ok (.ifCond .eq 6, 3) by decide +kernel) (by decide) (by unfold inI; decide) (fun hc => absurd hc (by decide)) (fun _ => ?_)
    refine x_bipush (pc := 7) (n := (-3)) (show decode mX7_mirror.2.1 7 = .ok (.bipush (-3), 2) by decide +kernel) rfl ?_
    exact x_iret (pc := 9) rfl (show decode mX7_mirror.2.1 9 = .ok (.ireturn, 1) by decide +kernel) ⟨_, rfl, hR⟩
  · show xG _ _ _ 4 _ [.inl 0] _ _
    refine x_if_eq (pc := 4) (tgt := 10) (show decode mX7_mirror.2.1 4 = .ok (.ifCond .eq 6, 3) by decide +kernel) (by decide) (by unfold inI; decide) (fun _ => ?_) (fun hc => absurd hc (by decide))
    refine x_aload_n (pc := 10) (show decode mX7_mirror.2.1 10 = .ok (.aload_n 0, 1) by decide +kernel) rfl rfl ?_
    refine x_getR (pc := 11) f7_12 rfl rfl (show decode mX7_mirror.2.1 11 = .ok (.getfield 12, 3) by decide +kernel) ?_
    refine x_callV (pc := 14) (As := []) (rest := []) (lk7_147 rfl) im_X3_flip sl_X3_flip rfl rfl rfl (Nat.le_of_ble_eq_true rfl) (Nat.le_of_ble_eq_true rfl) (show decode mX7_mirror.2.1 14 = .ok (.invokevirtual 147, 3) by decide +kernel) hd hR (fun r9 h2 hq => ?_)
    obtain ⟨rfl, hR⟩ := hq
    show xG _ _ _ 17 _ [] _ _
    refine x_aload_n (pc := 17) (show decode mX7_mirror.2.1 17 = .ok (.aload_n 0, 1) by decide +kernel) rfl rfl ?_
    refine x_getR (pc := 18) f7_12 rfl rfl (show decode mX7_mirror.2.1 18 = .ok (.getfield 12, 3) by decide +kernel) ?_
    refine x_getI (pc := 21) (ki := 2) f7_107 rfl rfl (by decide) rfl (show decode mX7_mirror.2.1 21 = .ok (.getfield 107, 3) by decide +kernel) ?_
    exact x_iret (pc := 24) rfl (show decode mX7_mirror.2.1 24 = .ok (.ireturn, 1) by decide +kernel) ⟨_, rfl, hR⟩
set_option maxRecDepth 4000 in
theorem sg_X7_even_0 {d : Nat} {h : xH} {Q : Int → xH → Prop} (hd : 1 ≤ d)
    (hR : cB wdC (d - 1) mX3_isEven [.inr (.inr 1)] h (fun h1 => Q 1 h1) (fun h1 => Q 0 h1)) :
    gI wdC d mX7_even 0 [some (.inr (.inr 0))] h Q := by
  unfold gI
  refine x_aload_n (pc := 0) (show decode mX7_even.2.1 0 = .ok (.aload_n 0, 1) by decide +kernel) rfl rfl ?_
  refine x_getR (pc := 1) f7_12 rfl rfl (show decode mX7_even.2.1 1 = .ok (.getfield 12, 3) by decide +kernel) ?_
  refine x_callV (pc := 4) (As := []) (rest := []) (lk7_150 rfl) im_X3_isEven sl_X3_isEven rfl rfl rfl (Nat.le_of_ble_eq_true rfl) (Nat.le_of_ble_eq_true rfl) (show decode mX7_even.2.1 4 = .ok (.invokevirtual 150, 3) by decide +kernel) hd hR (fun r9 h1 hq => ?_)
  obtain ⟨r8, rfl, hq⟩ := hq
  rcases hq with ⟨rfl, hR⟩ | ⟨rfl, hR⟩
  · show xG _ _ _ 7 _ [.inl 1] _ _
    refine x_if_eq (pc := 7) (tgt := 14) (show decode mX7_even.2.1 7 = .ok (.ifCond .eq 7, 3) by decide +kernel) (by decide) (by unfold inI; decide) (fun hc => absurd hc (by decide)) (fun _ => ?_)
    refine x_iconst (pc := 10) (n := 1) (show decode mX7_even.2.1 10 = .ok (.iconst 1, 1) by decide +kernel) ?_
    refine x_goto (pc := 11) (tgt := 15) (show decode mX7_even.2.1 11 = .ok (.goto 4, 3) by decide +kernel) (by decide) ?_
    exact x_iret (pc := 15) rfl (show decode mX7_even.2.1 15 = .ok (.ireturn, 1) by decide +kernel) ⟨_, rfl, hR⟩
  · show xG _ _ _ 7 _ [.inl 0] _ _
    refine x_if_eq (pc := 7) (tgt := 14) (show decode mX7_even.2.1 7 = .ok (.ifCond .eq 7, 3) by decide +kernel) (by decide) (by unfold inI; decide) (fun _ => ?_) (fun hc => absurd hc (by decide))
    refine x_iconst (pc := 14) (n := 0) (show decode mX7_even.2.1 14 = .ok (.iconst 0, 1) by decide +kernel) ?_
    exact x_iret (pc := 15) rfl (show decode mX7_even.2.1 15 = .ok (.ireturn, 1) by decide +kernel) ⟨_, rfl, hR⟩
set_option maxRecDepth 4000 in
theorem sg_X7_needs_0 {d : Nat} {x1 x2 : Int} {h : xH} {Q : Int → xH → Prop} (hd : 1 ≤ d)
    (hR : cB wdC (d - 1) mX3_isPin [.inr (.inr 1), .inl x1] h (fun h1 => cV wdC (d - 1) mX2_study [.inr (.inr 26), .inr (.inr 1)] h1 (fun h2 => inI x2 ∧ (x2 = 0 → (0 ≤ x1 ∧ x1 < 30) ∧ Q (h2 27 x1) h2) ∧ (x2 = 1 → (0 ≤ x1 ∧ x1 < 30) ∧ Q (h2 28 x1) h2) ∧ (x2 = 2 → cL wdC (d - 1) mX2_neededBy [.inr (.inr 26), .inl x1, .inl (h2 1 2)] h2 (fun r4 h3 => Q r4 h3)) ∧ ((x2 < 0 ∨ 2 < x2) → Q (-9223372036854775808) h2))) (fun h1 => Q (-9223372036854775808) h1)) :
    gL wdC d mX7_needs 0 [some (.inr (.inr 0)), some (.inl x1), some (.inl x2)] h Q := by
  unfold gL
  refine x_aload_n (pc := 0) (show decode mX7_needs.2.1 0 = .ok (.aload_n 0, 1) by decide +kernel) rfl rfl ?_
  refine x_getR (pc := 1) f7_12 rfl rfl (show decode mX7_needs.2.1 1 = .ok (.getfield 12, 3) by decide +kernel) ?_
  refine x_iload_n (pc := 4) (show decode mX7_needs.2.1 4 = .ok (.iload_n 1, 1) by decide +kernel) rfl rfl ?_
  refine x_callV (pc := 5) (As := [.inl x1]) (rest := []) (lk7_110 rfl) im_X3_isPin sl_X3_isPin rfl rfl rfl (Nat.le_of_ble_eq_true rfl) (Nat.le_of_ble_eq_true rfl) (show decode mX7_needs.2.1 5 = .ok (.invokevirtual 110, 3) by decide +kernel) hd hR (fun r9 h1 hq => ?_)
  obtain ⟨r8, rfl, hq⟩ := hq
  rcases hq with ⟨rfl, hR⟩ | ⟨rfl, hR⟩
  · show xG _ _ _ 8 _ [.inl 1] _ _
    refine x_if_ne (pc := 8) (tgt := 15) (show decode mX7_needs.2.1 8 = .ok (.ifCond .ne 7, 3) by decide +kernel) (by decide) (by unfold inI; decide) (fun _ => ?_) (fun hc => absurd hc (by decide))
    refine x_aload_n (pc := 15) (show decode mX7_needs.2.1 15 = .ok (.aload_n 0, 1) by decide +kernel) rfl rfl ?_
    refine x_getR (pc := 16) f7_41 rfl rfl (show decode mX7_needs.2.1 16 = .ok (.getfield 41, 3) by decide +kernel) ?_
    refine x_aload_n (pc := 19) (show decode mX7_needs.2.1 19 = .ok (.aload_n 0, 1) by decide +kernel) rfl rfl ?_
    refine x_getR (pc := 20) f7_12 rfl rfl (show decode mX7_needs.2.1 20 = .ok (.getfield 12, 3) by decide +kernel) ?_
    refine x_callV (pc := 23) (As := [.inr (.inr 1)]) (rest := []) (lk7_155 rfl) im_X2_study sl_X2_study rfl rfl rfl (Nat.le_of_ble_eq_true rfl) (Nat.le_of_ble_eq_true rfl) (show decode mX7_needs.2.1 23 = .ok (.invokevirtual 155, 3) by decide +kernel) hd hR (fun r9 h2 hq => ?_)
    obtain ⟨rfl, hR⟩ := hq
    show xG _ _ _ 26 _ [] _ _
    refine x_iload_n (pc := 26) (show decode mX7_needs.2.1 26 = .ok (.iload_n 2, 1) by decide +kernel) rfl rfl ?_
    obtain ⟨hg, hR⟩ := hR
    rcases (show x2 = 0 ∨ x2 = 1 ∨ x2 = 2 ∨ (x2 < 0 ∨ 2 < x2) by omega) with hc | hc | hc | hc
    · replace hR := hR.1 hc
      refine x_tswAt (pc := 27) (n := 0) (tgt := 52) (show decode mX7_needs.2.1 27 = .ok (.tableswitch 61 0 2 #[25, 35, 45], 25) by decide +kernel) hg hc (by decide) rfl (by decide) ?_
      refine x_aload_n (pc := 52) (show decode mX7_needs.2.1 52 = .ok (.aload_n 0, 1) by decide +kernel) rfl rfl ?_
      refine x_getR (pc := 53) f7_41 rfl rfl (show decode mX7_needs.2.1 53 = .ok (.getfield 41, 3) by decide +kernel) ?_
      refine x_getR (pc := 56) f7_159 rfl rfl (show decode mX7_needs.2.1 56 = .ok (.getfield 159, 3) by decide +kernel) ?_
      refine x_iload_n (pc := 59) (show decode mX7_needs.2.1 59 = .ok (.iload_n 1, 1) by decide +kernel) rfl rfl ?_
      obtain ⟨hg, hR⟩ := hR
      refine x_lald (pc := 60) rfl (by decide) hg (show decode mX7_needs.2.1 60 = .ok (.laload, 1) by decide +kernel) ?_
      exact x_lret (pc := 61) rfl (show decode mX7_needs.2.1 61 = .ok (.lreturn, 1) by decide +kernel) ⟨_, rfl, hR⟩
    · replace hR := hR.2.1 hc
      refine x_tswAt (pc := 27) (n := 1) (tgt := 62) (show decode mX7_needs.2.1 27 = .ok (.tableswitch 61 0 2 #[25, 35, 45], 25) by decide +kernel) hg hc (by decide) rfl (by decide) ?_
      refine x_aload_n (pc := 62) (show decode mX7_needs.2.1 62 = .ok (.aload_n 0, 1) by decide +kernel) rfl rfl ?_
      refine x_getR (pc := 63) f7_41 rfl rfl (show decode mX7_needs.2.1 63 = .ok (.getfield 41, 3) by decide +kernel) ?_
      refine x_getR (pc := 66) f7_163 rfl rfl (show decode mX7_needs.2.1 66 = .ok (.getfield 163, 3) by decide +kernel) ?_
      refine x_iload_n (pc := 69) (show decode mX7_needs.2.1 69 = .ok (.iload_n 1, 1) by decide +kernel) rfl rfl ?_
      obtain ⟨hg, hR⟩ := hR
      refine x_lald (pc := 70) rfl (by decide) hg (show decode mX7_needs.2.1 70 = .ok (.laload, 1) by decide +kernel) ?_
      exact x_lret (pc := 71) rfl (show decode mX7_needs.2.1 71 = .ok (.lreturn, 1) by decide +kernel) ⟨_, rfl, hR⟩
    · replace hR := hR.2.2.1 hc
      refine x_tswAt (pc := 27) (n := 2) (tgt := 72) (show decode mX7_needs.2.1 27 = .ok (.tableswitch 61 0 2 #[25, 35, 45], 25) by decide +kernel) hg hc (by decide) rfl (by decide) ?_
      refine x_aload_n (pc := 72) (show decode mX7_needs.2.1 72 = .ok (.aload_n 0, 1) by decide +kernel) rfl rfl ?_
      refine x_getR (pc := 73) f7_41 rfl rfl (show decode mX7_needs.2.1 73 = .ok (.getfield 41, 3) by decide +kernel) ?_
      refine x_iload_n (pc := 76) (show decode mX7_needs.2.1 76 = .ok (.iload_n 1, 1) by decide +kernel) rfl rfl ?_
      refine x_aload_n (pc := 77) (show decode mX7_needs.2.1 77 = .ok (.aload_n 0, 1) by decide +kernel) rfl rfl ?_
      refine x_getR (pc := 78) f7_12 rfl rfl (show decode mX7_needs.2.1 78 = .ok (.getfield 12, 3) by decide +kernel) ?_
      refine x_getI (pc := 81) (ki := 2) f7_107 rfl rfl (by decide) rfl (show decode mX7_needs.2.1 81 = .ok (.getfield 107, 3) by decide +kernel) ?_
      refine x_callV (pc := 84) (As := [.inl x1, .inl (h2 1 2)]) (rest := []) (lk7_166 rfl) im_X2_neededBy sl_X2_neededBy rfl rfl rfl (Nat.le_of_ble_eq_true rfl) (Nat.le_of_ble_eq_true rfl) (show decode mX7_needs.2.1 84 = .ok (.invokevirtual 166, 3) by decide +kernel) hd hR (fun r9 h3 hq => ?_)
      obtain ⟨r4, rfl, hR⟩ := hq
      show xG _ _ _ 87 _ [.inr (.inl r4)] _ _
      exact x_lret (pc := 87) rfl (show decode mX7_needs.2.1 87 = .ok (.lreturn, 1) by decide +kernel) ⟨_, rfl, hR⟩
    · replace hR := hR.2.2.2 hc
      refine x_tswOut (pc := 27) (tgt := 88) (show decode mX7_needs.2.1 27 = .ok (.tableswitch 61 0 2 #[25, 35, 45], 25) by decide +kernel) hg hc (by decide) ?_
      refine x_ldc2 (pc := 88) (n := (-9223372036854775808)) (tblG_m2 235 rfl rfl) rfl (show decode mX7_needs.2.1 88 = .ok (.ldc2_w 153, 3) by decide +kernel) ?_
      exact x_lret (pc := 91) rfl (show decode mX7_needs.2.1 91 = .ok (.lreturn, 1) by decide +kernel) ⟨_, rfl, hR⟩
  · show xG _ _ _ 8 _ [.inl 0] _ _
    refine x_if_ne (pc := 8) (tgt := 15) (show decode mX7_needs.2.1 8 = .ok (.ifCond .ne 7, 3) by decide +kernel) (by decide) (by unfold inI; decide) (fun hc => absurd hc (by decide)) (fun _ => ?_)
    refine x_ldc2 (pc := 11) (n := (-9223372036854775808)) (tblG_m2 235 rfl rfl) rfl (show decode mX7_needs.2.1 11 = .ok (.ldc2_w 153, 3) by decide +kernel) ?_
    exact x_lret (pc := 14) rfl (show decode mX7_needs.2.1 14 = .ok (.lreturn, 1) by decide +kernel) ⟨_, rfl, hR⟩
set_option maxRecDepth 4000 in
theorem sg_X7_pins_0 {d : Nat} {x1 : Int} {h : xH} {Q : Int → xH → Prop} (hd : 1 ≤ d)
    (hR : inI x1 ∧ (x1 = 0 → cL wdC (d - 1) mX7_lackingPins [.inr (.inr 0)] h (fun r2 h1 => Q r2 h1)) ∧ (x1 = 1 → cL wdC (d - 1) mX7_readyPins [.inr (.inr 0)] h (fun r4 h3 => Q r4 h3)) ∧ (x1 = 2 → Q (h 6 2) h) ∧ ((x1 < 0 ∨ 2 < x1) → Q (-9223372036854775808) h)) :
    gL wdC d mX7_pins 0 [some (.inr (.inr 0)), some (.inl x1)] h Q := by
  unfold gL
  refine x_iload_n (pc := 0) (show decode mX7_pins.2.1 0 = .ok (.iload_n 1, 1) by decide +kernel) rfl rfl ?_
  obtain ⟨hg, hR⟩ := hR
  rcases (show x1 = 0 ∨ x1 = 1 ∨ x1 = 2 ∨ (x1 < 0 ∨ 2 < x1) by omega) with hc | hc | hc | hc
  · replace hR := hR.1 hc
    refine x_tswAt (pc := 1) (n := 0) (tgt := 28) (show decode mX7_pins.2.1 1 = .ok (.tableswitch 45 0 2 #[27, 32, 37], 27) by decide +kernel) hg hc (by decide) rfl (by decide) ?_
    refine x_aload_n (pc := 28) (show decode mX7_pins.2.1 28 = .ok (.aload_n 0, 1) by decide +kernel) rfl rfl ?_
    refine x_callV (pc := 29) (As := []) (rest := []) (lk7_170 rfl) im_X7_lackingPins sl_X7_lackingPins rfl rfl rfl (Nat.le_of_ble_eq_true rfl) (Nat.le_of_ble_eq_true rfl) (show decode mX7_pins.2.1 29 = .ok (.invokevirtual 170, 3) by decide +kernel) hd hR (fun r9 h1 hq => ?_)
    obtain ⟨r2, rfl, hR⟩ := hq
    show xG _ _ _ 32 _ [.inr (.inl r2)] _ _
    exact x_lret (pc := 32) rfl (show decode mX7_pins.2.1 32 = .ok (.lreturn, 1) by decide +kernel) ⟨_, rfl, hR⟩
  · replace hR := hR.2.1 hc
    refine x_tswAt (pc := 1) (n := 1) (tgt := 33) (show decode mX7_pins.2.1 1 = .ok (.tableswitch 45 0 2 #[27, 32, 37], 27) by decide +kernel) hg hc (by decide) rfl (by decide) ?_
    refine x_aload_n (pc := 33) (show decode mX7_pins.2.1 33 = .ok (.aload_n 0, 1) by decide +kernel) rfl rfl ?_
    refine x_callV (pc := 34) (As := []) (rest := []) (lk7_174 rfl) im_X7_readyPins sl_X7_readyPins rfl rfl rfl (Nat.le_of_ble_eq_true rfl) (Nat.le_of_ble_eq_true rfl) (show decode mX7_pins.2.1 34 = .ok (.invokevirtual 174, 3) by decide +kernel) hd hR (fun r9 h3 hq => ?_)
    obtain ⟨r4, rfl, hR⟩ := hq
    show xG _ _ _ 37 _ [.inr (.inl r4)] _ _
    exact x_lret (pc := 37) rfl (show decode mX7_pins.2.1 37 = .ok (.lreturn, 1) by decide +kernel) ⟨_, rfl, hR⟩
  · replace hR := hR.2.2.1 hc
    refine x_tswAt (pc := 1) (n := 2) (tgt := 38) (show decode mX7_pins.2.1 1 = .ok (.tableswitch 45 0 2 #[27, 32, 37], 27) by decide +kernel) hg hc (by decide) rfl (by decide) ?_
    refine x_aload_n (pc := 38) (show decode mX7_pins.2.1 38 = .ok (.aload_n 0, 1) by decide +kernel) rfl rfl ?_
    refine x_getR (pc := 39) f7_21 rfl rfl (show decode mX7_pins.2.1 39 = .ok (.getfield 21, 3) by decide +kernel) ?_
    refine x_getL (pc := 42) (ki := 2) f7_177 rfl rfl rfl (show decode mX7_pins.2.1 42 = .ok (.getfield 177, 3) by decide +kernel) ?_
    exact x_lret (pc := 45) rfl (show decode mX7_pins.2.1 45 = .ok (.lreturn, 1) by decide +kernel) ⟨_, rfl, hR⟩
  · replace hR := hR.2.2.2 hc
    refine x_tswOut (pc := 1) (tgt := 46) (show decode mX7_pins.2.1 1 = .ok (.tableswitch 45 0 2 #[27, 32, 37], 27) by decide +kernel) hg hc (by decide) ?_
    refine x_ldc2 (pc := 46) (n := (-9223372036854775808)) (tblG_m2 235 rfl rfl) rfl (show decode mX7_pins.2.1 46 = .ok (.ldc2_w 153, 3) by decide +kernel) ?_
    exact x_lret (pc := 49) rfl (show decode mX7_pins.2.1 49 = .ok (.lreturn, 1) by decide +kernel) ⟨_, rfl, hR⟩
set_option maxRecDepth 4000 in
theorem sg_X7_deepest_0 {d : Nat} {h : xH} {Q : Int → xH → Prop} (hd : 1 ≤ d)
    (hR : (inI (h 1 2)) ∧ (¬ (h 1 2) = 0 → cV wdC (d - 1) mX2_study [.inr (.inr 26), .inr (.inr 1)] h (fun h1 => gI wdC d mX7_deepest 28 [some (.inr (.inr 0)), some (.inl 0), some (.inl 0)] h1 Q)) ∧ ((h 1 2) = 0 → Q (-5) h)) :
    gI wdC d mX7_deepest 0 [some (.inr (.inr 0)), none, none] h Q := by
  unfold gI
  refine x_aload_n (pc := 0) (show decode mX7_deepest.2.1 0 = .ok (.aload_n 0, 1) by decide +kernel) rfl rfl ?_
  refine x_getR (pc := 1) f7_12 rfl rfl (show decode mX7_deepest.2.1 1 = .ok (.getfield 12, 3) by decide +kernel) ?_
  refine x_getI (pc := 4) (ki := 2) f7_107 rfl rfl (by decide) rfl (show decode mX7_deepest.2.1 4 = .ok (.getfield 107, 3) by decide +kernel) ?_
  obtain ⟨hg, hR⟩ := hR
  refine x_if_ne (pc := 7) (tgt := 13) (show decode mX7_deepest.2.1 7 = .ok (.ifCond .ne 6, 3) by decide +kernel) (by decide) hg (fun hc => ?_) (fun hc => ?_)
  · replace hR := hR.1 hc
    refine x_aload_n (pc := 13) (show decode mX7_deepest.2.1 13 = .ok (.aload_n 0, 1) by decide +kernel) rfl rfl ?_
    refine x_getR (pc := 14) f7_41 rfl rfl (show decode mX7_deepest.2.1 14 = .ok (.getfield 41, 3) by decide +kernel) ?_
    refine x_aload_n (pc := 17) (show decode mX7_deepest.2.1 17 = .ok (.aload_n 0, 1) by decide +kernel) rfl rfl ?_
    refine x_getR (pc := 18) f7_12 rfl rfl (show decode mX7_deepest.2.1 18 = .ok (.getfield 12, 3) by decide +kernel) ?_
    refine x_callV (pc := 21) (As := [.inr (.inr 1)]) (rest := []) (lk7_155 rfl) im_X2_study sl_X2_study rfl rfl rfl (Nat.le_of_ble_eq_true rfl) (Nat.le_of_ble_eq_true rfl) (show decode mX7_deepest.2.1 21 = .ok (.invokevirtual 155, 3) by decide +kernel) hd hR (fun r9 h1 hq => ?_)
    obtain ⟨rfl, hR⟩ := hq
    show xG _ _ _ 24 _ [] _ _
    refine x_iconst (pc := 24) (n := 0) (show decode mX7_deepest.2.1 24 = .ok (.iconst 0, 1) by decide +kernel) ?_
    refine x_istore_n (pc := 25) (ls' := [some (.inr (.inr 0)), some (.inl 0), none]) (show decode mX7_deepest.2.1 25 = .ok (.istore_n 1, 1) by decide +kernel) rfl (by decide) rfl ?_
    refine x_iconst (pc := 26) (n := 0) (show decode mX7_deepest.2.1 26 = .ok (.iconst 0, 1) by decide +kernel) ?_
    refine x_istore_n (pc := 27) (ls' := [some (.inr (.inr 0)), some (.inl 0), some (.inl 0)]) (show decode mX7_deepest.2.1 27 = .ok (.istore_n 2, 1) by decide +kernel) rfl (by decide) rfl ?_
    exact hR
  · replace hR := hR.2 hc
    refine x_bipush (pc := 10) (n := (-5)) (show decode mX7_deepest.2.1 10 = .ok (.bipush (-5), 2) by decide +kernel) rfl ?_
    exact x_iret (pc := 12) rfl (show decode mX7_deepest.2.1 12 = .ok (.ireturn, 1) by decide +kernel) ⟨_, rfl, hR⟩
set_option maxRecDepth 4000 in
theorem sg_X7_deepest_28 {d : Nat} {x1 x2 : Int} {h : xH} {Q : Int → xH → Prop} (hd : 1 ≤ d)
    (hR : (inI x2 ∧ inI (h 1 2)) ∧ ((h 1 2) ≤ x2 → Q x1 h) ∧ (x2 < (h 1 2) → (0 ≤ x2 ∧ x2 < 30) ∧ (inI x1 ∧ inI (h 29 x2)) ∧ gI wdC d mX7_deepest 28 [some (.inr (.inr 0)), some (.inl (max x1 (h 29 x2))), some (.inl (x2 + 1))] h Q)) :
    gI wdC d mX7_deepest 28 [some (.inr (.inr 0)), some (.inl x1), some (.inl x2)] h Q := by
  unfold gI
  refine x_iload_n (pc := 28) (show decode mX7_deepest.2.1 28 = .ok (.iload_n 2, 1) by decide +kernel) rfl rfl ?_
  refine x_aload_n (pc := 29) (show decode mX7_deepest.2.1 29 = .ok (.aload_n 0, 1) by decide +kernel) rfl rfl ?_
  refine x_getR (pc := 30) f7_12 rfl rfl (show decode mX7_deepest.2.1 30 = .ok (.getfield 12, 3) by decide +kernel) ?_
  refine x_getI (pc := 33) (ki := 2) f7_107 rfl rfl (by decide) rfl (show decode mX7_deepest.2.1 33 = .ok (.getfield 107, 3) by decide +kernel) ?_
  obtain ⟨hg, hR⟩ := hR
  refine x_icmp_ge (pc := 36) (tgt := 59) (show decode mX7_deepest.2.1 36 = .ok (.if_icmp .ge 23, 3) by decide +kernel) (by decide) ⟨hg.1, hg.2⟩ (fun hc => ?_) (fun hc => ?_)
  · replace hR := hR.1 hc
    refine x_iload_n (pc := 59) (show decode mX7_deepest.2.1 59 = .ok (.iload_n 1, 1) by decide +kernel) rfl rfl ?_
    exact x_iret (pc := 60) rfl (show decode mX7_deepest.2.1 60 = .ok (.ireturn, 1) by decide +kernel) ⟨_, rfl, hR⟩
  · replace hR := hR.2 hc
    refine x_iload_n (pc := 39) (show decode mX7_deepest.2.1 39 = .ok (.iload_n 1, 1) by decide +kernel) rfl rfl ?_
    refine x_aload_n (pc := 40) (show decode mX7_deepest.2.1 40 = .ok (.aload_n 0, 1) by decide +kernel) rfl rfl ?_
    refine x_getR (pc := 41) f7_41 rfl rfl (show decode mX7_deepest.2.1 41 = .ok (.getfield 41, 3) by decide +kernel) ?_
    refine x_getR (pc := 44) f7_181 rfl rfl (show decode mX7_deepest.2.1 44 = .ok (.getfield 181, 3) by decide +kernel) ?_
    refine x_iload_n (pc := 47) (show decode mX7_deepest.2.1 47 = .ok (.iload_n 2, 1) by decide +kernel) rfl rfl ?_
    obtain ⟨hg, hR⟩ := hR
    refine x_iald (pc := 48) rfl (by decide) hg (show decode mX7_deepest.2.1 48 = .ok (.iaload, 1) by decide +kernel) ?_
    obtain ⟨hg, hR⟩ := hR
    refine x_mmax (pc := 49) (tblG_m3 19 rfl rfl) MX_st M_in MX_cd ⟨hg.1, hg.2⟩ (Nat.le_of_ble_eq_true rfl) hd (show decode mX7_deepest.2.1 49 = .ok (.invokestatic 184, 3) by decide +kernel) ?_
    refine x_istore_n (pc := 52) (ls' := [some (.inr (.inr 0)), some (.inl (max x1 (h 29 x2))), some (.inl x2)]) (show decode mX7_deepest.2.1 52 = .ok (.istore_n 1, 1) by decide +kernel) rfl (by decide) rfl ?_
    refine x_iinc (pc := 53) (ls' := [some (.inr (.inr 0)), some (.inl (max x1 (h 29 x2))), some (.inl (x2 + 1))]) (show decode mX7_deepest.2.1 53 = .ok (.iinc 2 1, 3) by decide +kernel) (by decide) rfl rfl ?_
    refine x_goto (pc := 56) (tgt := 28) (show decode mX7_deepest.2.1 56 = .ok (.goto (-28), 3) by decide +kernel) (by decide) ?_
    exact hR
set_option maxRecDepth 4000 in
theorem sg_X7_work_0 {d : Nat} {x1 : Int} {h : xH} {Q : Int → xH → Prop} (hd : 1 ≤ d)
    (hR : cB wdC (d - 1) mX3_isPin [.inr (.inr 1), .inl x1] h (fun h1 => cL wdC (d - 1) mX7_readyPins [.inr (.inr 0)] h1 (fun r3 h2 => cB wdC (d - 1) mX7_hasPin [.inr (.inl r3), .inl x1] h2 (fun h4 => cV wdC (d - 1) mX7_workOne [.inr (.inr 0), .inl x1] h4 (fun h5 => Q (h5 6 3) h5)) (fun h4 => Q (-3) h4))) (fun h1 => Q (-1) h1)) :
    gI wdC d mX7_work 0 [some (.inr (.inr 0)), some (.inl x1)] h Q := by
  unfold gI
  refine x_aload_n (pc := 0) (show decode mX7_work.2.1 0 = .ok (.aload_n 0, 1) by decide +kernel) rfl rfl ?_
  refine x_getR (pc := 1) f7_12 rfl rfl (show decode mX7_work.2.1 1 = .ok (.getfield 12, 3) by decide +kernel) ?_
  refine x_iload_n (pc := 4) (show decode mX7_work.2.1 4 = .ok (.iload_n 1, 1) by decide +kernel) rfl rfl ?_
  refine x_callV (pc := 5) (As := [.inl x1]) (rest := []) (lk7_110 rfl) im_X3_isPin sl_X3_isPin rfl rfl rfl (Nat.le_of_ble_eq_true rfl) (Nat.le_of_ble_eq_true rfl) (show decode mX7_work.2.1 5 = .ok (.invokevirtual 110, 3) by decide +kernel) hd hR (fun r9 h1 hq => ?_)
  obtain ⟨r8, rfl, hq⟩ := hq
  rcases hq with ⟨rfl, hR⟩ | ⟨rfl, hR⟩
  · show xG _ _ _ 8 _ [.inl 1] _ _
    refine x_if_ne (pc := 8) (tgt := 13) (show decode mX7_work.2.1 8 = .ok (.ifCond .ne 5, 3) by decide +kernel) (by decide) (by unfold inI; decide) (fun _ => ?_) (fun hc => absurd hc (by decide))
    refine x_aload_n (pc := 13) (show decode mX7_work.2.1 13 = .ok (.aload_n 0, 1) by decide +kernel) rfl rfl ?_
    refine x_callV (pc := 14) (As := []) (rest := []) (lk7_174 rfl) im_X7_readyPins sl_X7_readyPins rfl rfl rfl (Nat.le_of_ble_eq_true rfl) (Nat.le_of_ble_eq_true rfl) (show decode mX7_work.2.1 14 = .ok (.invokevirtual 174, 3) by decide +kernel) hd hR (fun r9 h2 hq => ?_)
    obtain ⟨r3, rfl, hR⟩ := hq
    show xG _ _ _ 17 _ [.inr (.inl r3)] _ _
    refine x_iload_n (pc := 17) (show decode mX7_work.2.1 17 = .ok (.iload_n 1, 1) by decide +kernel) rfl rfl ?_
    refine x_callS (pc := 18) (As := [.inr (.inl r3), .inl x1]) (rest := []) (lk7_189 rfl) sm_X7_hasPin (Nat.le_of_ble_eq_true rfl) (Nat.le_of_ble_eq_true rfl) (show decode mX7_work.2.1 18 = .ok (.invokestatic 189, 3) by decide +kernel) hd hR (fun r9 h4 hq => ?_)
    obtain ⟨r8, rfl, hq⟩ := hq
    rcases hq with ⟨rfl, hR⟩ | ⟨rfl, hR⟩
    · show xG _ _ _ 21 _ [.inl 1] _ _
      refine x_if_ne (pc := 21) (tgt := 27) (show decode mX7_work.2.1 21 = .ok (.ifCond .ne 6, 3) by decide +kernel) (by decide) (by unfold inI; decide) (fun _ => ?_) (fun hc => absurd hc (by decide))
      refine x_aload_n (pc := 27) (show decode mX7_work.2.1 27 = .ok (.aload_n 0, 1) by decide +kernel) rfl rfl ?_
      refine x_iload_n (pc := 28) (show decode mX7_work.2.1 28 = .ok (.iload_n 1, 1) by decide +kernel) rfl rfl ?_
      refine x_callV (pc := 29) (As := [.inl x1]) (rest := []) (lk7_193 rfl) im_X7_workOne sl_X7_workOne rfl rfl rfl (Nat.le_of_ble_eq_true rfl) (Nat.le_of_ble_eq_true rfl) (show decode mX7_work.2.1 29 = .ok (.invokevirtual 193, 3) by decide +kernel) hd hR (fun r9 h5 hq => ?_)
      obtain ⟨rfl, hR⟩ := hq
      show xG _ _ _ 32 _ [] _ _
      refine x_aload_n (pc := 32) (show decode mX7_work.2.1 32 = .ok (.aload_n 0, 1) by decide +kernel) rfl rfl ?_
      refine x_getR (pc := 33) f7_21 rfl rfl (show decode mX7_work.2.1 33 = .ok (.getfield 21, 3) by decide +kernel) ?_
      refine x_getI (pc := 36) (ki := 3) f7_196 rfl rfl (by decide) rfl (show decode mX7_work.2.1 36 = .ok (.getfield 196, 3) by decide +kernel) ?_
      exact x_iret (pc := 39) rfl (show decode mX7_work.2.1 39 = .ok (.ireturn, 1) by decide +kernel) ⟨_, rfl, hR⟩
    · show xG _ _ _ 21 _ [.inl 0] _ _
      refine x_if_ne (pc := 21) (tgt := 27) (show decode mX7_work.2.1 21 = .ok (.ifCond .ne 6, 3) by decide +kernel) (by decide) (by unfold inI; decide) (fun hc => absurd hc (by decide)) (fun _ => ?_)
      refine x_bipush (pc := 24) (n := (-3)) (show decode mX7_work.2.1 24 = .ok (.bipush (-3), 2) by decide +kernel) rfl ?_
      exact x_iret (pc := 26) rfl (show decode mX7_work.2.1 26 = .ok (.ireturn, 1) by decide +kernel) ⟨_, rfl, hR⟩
  · show xG _ _ _ 8 _ [.inl 0] _ _
    refine x_if_ne (pc := 8) (tgt := 13) (show decode mX7_work.2.1 8 = .ok (.ifCond .ne 5, 3) by decide +kernel) (by decide) (by unfold inI; decide) (fun hc => absurd hc (by decide)) (fun _ => ?_)
    refine x_iconst (pc := 11) (n := (-1)) (show decode mX7_work.2.1 11 = .ok (.iconst (-1), 1) by decide +kernel) ?_
    exact x_iret (pc := 12) rfl (show decode mX7_work.2.1 12 = .ok (.ireturn, 1) by decide +kernel) ⟨_, rfl, hR⟩
set_option maxRecDepth 4000 in
theorem sg_X7_workAll_0 {d : Nat} {h : xH} {Q : Int → xH → Prop}
    (hR : gI wdC d mX7_workAll 4 [some (.inr (.inr 0)), some (.inl 0), some (.inl 0), none] h Q) :
    gI wdC d mX7_workAll 0 [some (.inr (.inr 0)), none, none, none] h Q := by
  unfold gI
  refine x_iconst (pc := 0) (n := 0) (show decode mX7_workAll.2.1 0 = .ok (.iconst 0, 1) by decide +kernel) ?_
  refine x_istore_n (pc := 1) (ls' := [some (.inr (.inr 0)), some (.inl 0), none, none]) (show decode mX7_workAll.2.1 1 = .ok (.istore_n 1, 1) by decide +kernel) rfl (by decide) rfl ?_
  refine x_iconst (pc := 2) (n := 0) (show decode mX7_workAll.2.1 2 = .ok (.iconst 0, 1) by decide +kernel) ?_
  refine x_istore_n (pc := 3) (ls' := [some (.inr (.inr 0)), some (.inl 0), some (.inl 0), none]) (show decode mX7_workAll.2.1 3 = .ok (.istore_n 2, 1) by decide +kernel) rfl (by decide) rfl ?_
  exact hR
set_option maxRecDepth 4000 in
theorem sg_X7_workAll_4 {d : Nat} {x1 x2 : Int} {h : xH} {Q : Int → xH → Prop} (hd : 1 ≤ d)
    (hR : (inI x2) ∧ (30 ≤ x2 → Q x1 h) ∧ (x2 < 30 → cL wdC (d - 1) mX7_readyPins [.inr (.inr 0)] h (fun r2 h1 => cI wdC (d - 1) mX3_uppermost [.inr (.inr 1), .inr (.inl r2)] h1 (fun r4 h3 => (inI r4) ∧ (0 ≤ r4 → cV wdC (d - 1) mX7_workOne [.inr (.inr 0), .inl r4] h3 (fun h5 => gI wdC d mX7_workAll 4 [some (.inr (.inr 0)), some (.inl (x1 + 1)), some (.inl (x2 + 1)), none] h5 Q)) ∧ (r4 < 0 → Q x1 h3))))) :
    gI wdC d mX7_workAll 4 [some (.inr (.inr 0)), some (.inl x1), some (.inl x2), none] h Q := by
  unfold gI
  refine x_iload_n (pc := 4) (show decode mX7_workAll.2.1 4 = .ok (.iload_n 2, 1) by decide +kernel) rfl rfl ?_
  refine x_bipush (pc := 5) (n := 30) (show decode mX7_workAll.2.1 5 = .ok (.bipush 30, 2) by decide +kernel) rfl ?_
  obtain ⟨hg, hR⟩ := hR
  refine x_icmp_ge (pc := 7) (tgt := 43) (show decode mX7_workAll.2.1 7 = .ok (.if_icmp .ge 36, 3) by decide +kernel) (by decide) ⟨hg, (by unfold inI; decide)⟩ (fun hc => ?_) (fun hc => ?_)
  · replace hR := hR.1 hc
    refine x_iload_n (pc := 43) (show decode mX7_workAll.2.1 43 = .ok (.iload_n 1, 1) by decide +kernel) rfl rfl ?_
    exact x_iret (pc := 44) rfl (show decode mX7_workAll.2.1 44 = .ok (.ireturn, 1) by decide +kernel) ⟨_, rfl, hR⟩
  · replace hR := hR.2 hc
    refine x_aload_n (pc := 10) (show decode mX7_workAll.2.1 10 = .ok (.aload_n 0, 1) by decide +kernel) rfl rfl ?_
    refine x_getR (pc := 11) f7_12 rfl rfl (show decode mX7_workAll.2.1 11 = .ok (.getfield 12, 3) by decide +kernel) ?_
    refine x_aload_n (pc := 14) (show decode mX7_workAll.2.1 14 = .ok (.aload_n 0, 1) by decide +kernel) rfl rfl ?_
    refine x_callV (pc := 15) (As := []) (rest := [.inr (.inr 1)]) (lk7_174 rfl) im_X7_readyPins sl_X7_readyPins rfl rfl rfl (Nat.le_of_ble_eq_true rfl) (Nat.le_of_ble_eq_true rfl) (show decode mX7_workAll.2.1 15 = .ok (.invokevirtual 174, 3) by decide +kernel) hd hR (fun r9 h1 hq => ?_)
    obtain ⟨r2, rfl, hR⟩ := hq
    show xG _ _ _ 18 _ [.inr (.inl r2), .inr (.inr 1)] _ _
    refine x_callV (pc := 18) (As := [.inr (.inl r2)]) (rest := []) (lk7_199 rfl) im_X3_uppermost sl_X3_uppermost rfl rfl rfl (Nat.le_of_ble_eq_true rfl) (Nat.le_of_ble_eq_true rfl) (show decode mX7_workAll.2.1 18 = .ok (.invokevirtual 199, 3) by decide +kernel) hd hR (fun r9 h3 hq => ?_)
    obtain ⟨r4, rfl, hR⟩ := hq
    show xG _ _ _ 21 _ [.inl r4] _ _
    refine x_istore_n (pc := 21) (ls' := [some (.inr (.inr 0)), some (.inl x1), some (.inl x2), some (.inl r4)]) (show decode mX7_workAll.2.1 21 = .ok (.istore_n 3, 1) by decide +kernel) rfl (by decide) rfl ?_
    refine x_iload_n (pc := 22) (show decode mX7_workAll.2.1 22 = .ok (.iload_n 3, 1) by decide +kernel) rfl rfl ?_
    obtain ⟨hg, hR⟩ := hR
    refine x_if_ge (pc := 23) (tgt := 29) (show decode mX7_workAll.2.1 23 = .ok (.ifCond .ge 6, 3) by decide +kernel) (by decide) hg (fun hc => ?_) (fun hc => ?_)
    · replace hR := hR.1 hc
      refine x_aload_n (pc := 29) (show decode mX7_workAll.2.1 29 = .ok (.aload_n 0, 1) by decide +kernel) rfl rfl ?_
      refine x_iload_n (pc := 30) (show decode mX7_workAll.2.1 30 = .ok (.iload_n 3, 1) by decide +kernel) rfl rfl ?_
      refine x_callV (pc := 31) (As := [.inl r4]) (rest := []) (lk7_193 rfl) im_X7_workOne sl_X7_workOne rfl rfl rfl (Nat.le_of_ble_eq_true rfl) (Nat.le_of_ble_eq_true rfl) (show decode mX7_workAll.2.1 31 = .ok (.invokevirtual 193, 3) by decide +kernel) hd hR (fun r9 h5 hq => ?_)
      obtain ⟨rfl, hR⟩ := hq
      show xG _ _ _ 34 _ [] _ _
      refine x_iinc (pc := 34) (ls' := [some (.inr (.inr 0)), some (.inl (x1 + 1)), some (.inl x2), some (.inl r4)]) (show decode mX7_workAll.2.1 34 = .ok (.iinc 1 1, 3) by decide +kernel) (by decide) rfl rfl ?_
      refine x_iinc (pc := 37) (ls' := [some (.inr (.inr 0)), some (.inl (x1 + 1)), some (.inl (x2 + 1)), some (.inl r4)]) (show decode mX7_workAll.2.1 37 = .ok (.iinc 2 1, 3) by decide +kernel) (by decide) rfl rfl ?_
      refine x_goto (pc := 40) (tgt := 4) (show decode mX7_workAll.2.1 40 = .ok (.goto (-36), 3) by decide +kernel) (by decide) ?_
      exact x_weak (xle_get (by repeat' constructor)) hR
    · replace hR := hR.2 hc
      refine x_goto (pc := 26) (tgt := 43) (show decode mX7_workAll.2.1 26 = .ok (.goto 17, 3) by decide +kernel) (by decide) ?_
      refine x_iload_n (pc := 43) (show decode mX7_workAll.2.1 43 = .ok (.iload_n 1, 1) by decide +kernel) rfl rfl ?_
      exact x_iret (pc := 44) rfl (show decode mX7_workAll.2.1 44 = .ok (.ireturn, 1) by decide +kernel) ⟨_, rfl, hR⟩
set_option maxRecDepth 4000 in
theorem sg_X7_undo_0 {d : Nat} {h : xH} {Q : Int → xH → Prop} (hd : 1 ≤ d)
    (hR : cB wdC (d - 1) mX7_anyDone [.inr (.inr 0)] h (fun h1 => cI wdC (d - 1) mX0_lastWorked [.inr (.inr 6)] h1 (fun r3 h2 => (0 ≤ r3 ∧ r3 < 30) ∧ (0 ≤ r3 ∧ r3 < 30) ∧ cV wdC (d - 1) mX0_unwork [.inr (.inr 6), .inl r3, .inl (h2 3 r3), .inl (h2 4 r3)] h2 (fun h4 => Q (h4 6 3) h4))) (fun h1 => Q (-3) h1)) :
    gI wdC d mX7_undo 0 [some (.inr (.inr 0)), none] h Q := by
  unfold gI
  refine x_aload_n (pc := 0) (show decode mX7_undo.2.1 0 = .ok (.aload_n 0, 1) by decide +kernel) rfl rfl ?_
  refine x_callV (pc := 1) (As := []) (rest := []) (lk7_99 rfl) im_X7_anyDone sl_X7_anyDone rfl rfl rfl (Nat.le_of_ble_eq_true rfl) (Nat.le_of_ble_eq_true rfl) (show decode mX7_undo.2.1 1 = .ok (.invokevirtual 99, 3) by decide +kernel) hd hR (fun r9 h1 hq => ?_)
  obtain ⟨r8, rfl, hq⟩ := hq
  rcases hq with ⟨rfl, hR⟩ | ⟨rfl, hR⟩
  · show xG _ _ _ 4 _ [.inl 1] _ _
    refine x_if_ne (pc := 4) (tgt := 10) (show decode mX7_undo.2.1 4 = .ok (.ifCond .ne 6, 3) by decide +kernel) (by decide) (by unfold inI; decide) (fun _ => ?_) (fun hc => absurd hc (by decide))
    refine x_aload_n (pc := 10) (show decode mX7_undo.2.1 10 = .ok (.aload_n 0, 1) by decide +kernel) rfl rfl ?_
    refine x_getR (pc := 11) f7_21 rfl rfl (show decode mX7_undo.2.1 11 = .ok (.getfield 21, 3) by decide +kernel) ?_
    refine x_callV (pc := 14) (As := []) (rest := []) (lk7_203 rfl) im_X0_lastWorked sl_X0_lastWorked rfl rfl rfl (Nat.le_of_ble_eq_true rfl) (Nat.le_of_ble_eq_true rfl) (show decode mX7_undo.2.1 14 = .ok (.invokevirtual 203, 3) by decide +kernel) hd hR (fun r9 h2 hq => ?_)
    obtain ⟨r3, rfl, hR⟩ := hq
    show xG _ _ _ 17 _ [.inl r3] _ _
    refine x_istore_n (pc := 17) (ls' := [some (.inr (.inr 0)), some (.inl r3)]) (show decode mX7_undo.2.1 17 = .ok (.istore_n 1, 1) by decide +kernel) rfl (by decide) rfl ?_
    refine x_aload_n (pc := 18) (show decode mX7_undo.2.1 18 = .ok (.aload_n 0, 1) by decide +kernel) rfl rfl ?_
    refine x_getR (pc := 19) f7_21 rfl rfl (show decode mX7_undo.2.1 19 = .ok (.getfield 21, 3) by decide +kernel) ?_
    refine x_iload_n (pc := 22) (show decode mX7_undo.2.1 22 = .ok (.iload_n 1, 1) by decide +kernel) rfl rfl ?_
    refine x_aload_n (pc := 23) (show decode mX7_undo.2.1 23 = .ok (.aload_n 0, 1) by decide +kernel) rfl rfl ?_
    refine x_getR (pc := 24) f7_12 rfl rfl (show decode mX7_undo.2.1 24 = .ok (.getfield 12, 3) by decide +kernel) ?_
    refine x_getR (pc := 27) f7_119 rfl rfl (show decode mX7_undo.2.1 27 = .ok (.getfield 119, 3) by decide +kernel) ?_
    refine x_iload_n (pc := 30) (show decode mX7_undo.2.1 30 = .ok (.iload_n 1, 1) by decide +kernel) rfl rfl ?_
    obtain ⟨hg, hR⟩ := hR
    refine x_iald (pc := 31) rfl (by decide) hg (show decode mX7_undo.2.1 31 = .ok (.iaload, 1) by decide +kernel) ?_
    refine x_aload_n (pc := 32) (show decode mX7_undo.2.1 32 = .ok (.aload_n 0, 1) by decide +kernel) rfl rfl ?_
    refine x_getR (pc := 33) f7_12 rfl rfl (show decode mX7_undo.2.1 33 = .ok (.getfield 12, 3) by decide +kernel) ?_
    refine x_getR (pc := 36) f7_113 rfl rfl (show decode mX7_undo.2.1 36 = .ok (.getfield 113, 3) by decide +kernel) ?_
    refine x_iload_n (pc := 39) (show decode mX7_undo.2.1 39 = .ok (.iload_n 1, 1) by decide +kernel) rfl rfl ?_
    obtain ⟨hg, hR⟩ := hR
    refine x_iald (pc := 40) rfl (by decide) hg (show decode mX7_undo.2.1 40 = .ok (.iaload, 1) by decide +kernel) ?_
    refine x_callV (pc := 41) (As := [.inl r3, .inl (h2 3 r3), .inl (h2 4 r3)]) (rest := []) (lk7_207 rfl) im_X0_unwork sl_X0_unwork rfl rfl rfl (Nat.le_of_ble_eq_true rfl) (Nat.le_of_ble_eq_true rfl) (show decode mX7_undo.2.1 41 = .ok (.invokevirtual 207, 3) by decide +kernel) hd hR (fun r9 h4 hq => ?_)
    obtain ⟨rfl, hR⟩ := hq
    show xG _ _ _ 44 _ [] _ _
    refine x_aload_n (pc := 44) (show decode mX7_undo.2.1 44 = .ok (.aload_n 0, 1) by decide +kernel) rfl rfl ?_
    refine x_getR (pc := 45) f7_21 rfl rfl (show decode mX7_undo.2.1 45 = .ok (.getfield 21, 3) by decide +kernel) ?_
    refine x_getI (pc := 48) (ki := 3) f7_196 rfl rfl (by decide) rfl (show decode mX7_undo.2.1 48 = .ok (.getfield 196, 3) by decide +kernel) ?_
    exact x_iret (pc := 51) rfl (show decode mX7_undo.2.1 51 = .ok (.ireturn, 1) by decide +kernel) ⟨_, rfl, hR⟩
  · show xG _ _ _ 4 _ [.inl 0] _ _
    refine x_if_ne (pc := 4) (tgt := 10) (show decode mX7_undo.2.1 4 = .ok (.ifCond .ne 6, 3) by decide +kernel) (by decide) (by unfold inI; decide) (fun hc => absurd hc (by decide)) (fun _ => ?_)
    refine x_bipush (pc := 7) (n := (-3)) (show decode mX7_undo.2.1 7 = .ok (.bipush (-3), 2) by decide +kernel) rfl ?_
    exact x_iret (pc := 9) rfl (show decode mX7_undo.2.1 9 = .ok (.ireturn, 1) by decide +kernel) ⟨_, rfl, hR⟩
set_option maxRecDepth 4000 in
theorem sg_X7_thread_0 {d : Nat} {x1 x2 : Int} {h : xH} {Q : Int → xH → Prop} (hd : 1 ≤ d)
    (hR : cB wdC (d - 1) mX3_isSlot [.inr (.inr 1), .inl x1] h (fun h1 => (inI x2) ∧ (x2 < 0 → Q (-1) h1) ∧ (0 ≤ x2 → (inI x2) ∧ (x2 ≤ 1 → (0 ≤ ((2 * x1) + x2) ∧ ((2 * x1) + x2) < 24) ∧ Q (h1 7 ((2 * x1) + x2)) h1) ∧ (1 < x2 → Q (-1) h1))) (fun h1 => Q (-1) h1)) :
    gI wdC d mX7_thread 0 [some (.inr (.inr 0)), some (.inl x1), some (.inl x2)] h Q := by
  unfold gI
  refine x_aload_n (pc := 0) (show decode mX7_thread.2.1 0 = .ok (.aload_n 0, 1) by decide +kernel) rfl rfl ?_
  refine x_getR (pc := 1) f7_12 rfl rfl (show decode mX7_thread.2.1 1 = .ok (.getfield 12, 3) by decide +kernel) ?_
  refine x_iload_n (pc := 4) (show decode mX7_thread.2.1 4 = .ok (.iload_n 1, 1) by decide +kernel) rfl rfl ?_
  refine x_callV (pc := 5) (As := [.inl x1]) (rest := []) (lk7_132 rfl) im_X3_isSlot sl_X3_isSlot rfl rfl rfl (Nat.le_of_ble_eq_true rfl) (Nat.le_of_ble_eq_true rfl) (show decode mX7_thread.2.1 5 = .ok (.invokevirtual 132, 3) by decide +kernel) hd hR (fun r9 h1 hq => ?_)
  obtain ⟨r8, rfl, hq⟩ := hq
  rcases hq with ⟨rfl, hR⟩ | ⟨rfl, hR⟩
  · show xG _ _ _ 8 _ [.inl 1] _ _
    refine x_if_eq (pc := 8) (tgt := 20) (show decode mX7_thread.2.1 8 = .ok (.ifCond .eq 12, 3) by decide +kernel) (by decide) (by unfold inI; decide) (fun hc => absurd hc (by decide)) (fun _ => ?_)
    refine x_iload_n (pc := 11) (show decode mX7_thread.2.1 11 = .ok (.iload_n 2, 1) by decide +kernel) rfl rfl ?_
    obtain ⟨hg, hR⟩ := hR
    refine x_if_lt (pc := 12) (tgt := 20) (show decode mX7_thread.2.1 12 = .ok (.ifCond .lt 8, 3) by decide +kernel) (by decide) hg (fun hc => ?_) (fun hc => ?_)
    · replace hR := hR.1 hc
      refine x_iconst (pc := 20) (n := (-1)) (show decode mX7_thread.2.1 20 = .ok (.iconst (-1), 1) by decide +kernel) ?_
      exact x_iret (pc := 21) rfl (show decode mX7_thread.2.1 21 = .ok (.ireturn, 1) by decide +kernel) ⟨_, rfl, hR⟩
    · replace hR := hR.2 hc
      refine x_iload_n (pc := 15) (show decode mX7_thread.2.1 15 = .ok (.iload_n 2, 1) by decide +kernel) rfl rfl ?_
      refine x_iconst (pc := 16) (n := 1) (show decode mX7_thread.2.1 16 = .ok (.iconst 1, 1) by decide +kernel) ?_
      obtain ⟨hg, hR⟩ := hR
      refine x_icmp_le (pc := 17) (tgt := 22) (show decode mX7_thread.2.1 17 = .ok (.if_icmp .le 5, 3) by decide +kernel) (by decide) ⟨hg, (by unfold inI; decide)⟩ (fun hc => ?_) (fun hc => ?_)
      · replace hR := hR.1 hc
        refine x_aload_n (pc := 22) (show decode mX7_thread.2.1 22 = .ok (.aload_n 0, 1) by decide +kernel) rfl rfl ?_
        refine x_getR (pc := 23) f7_21 rfl rfl (show decode mX7_thread.2.1 23 = .ok (.getfield 21, 3) by decide +kernel) ?_
        refine x_getR (pc := 26) f7_211 rfl rfl (show decode mX7_thread.2.1 26 = .ok (.getfield 211, 3) by decide +kernel) ?_
        refine x_iconst (pc := 29) (n := 2) (show decode mX7_thread.2.1 29 = .ok (.iconst 2, 1) by decide +kernel) ?_
        refine x_iload_n (pc := 30) (show decode mX7_thread.2.1 30 = .ok (.iload_n 1, 1) by decide +kernel) rfl rfl ?_
        refine x_imul (pc := 31) (show decode mX7_thread.2.1 31 = .ok (.imul, 1) by decide +kernel) ?_
        refine x_iload_n (pc := 32) (show decode mX7_thread.2.1 32 = .ok (.iload_n 2, 1) by decide +kernel) rfl rfl ?_
        refine x_iadd (pc := 33) (show decode mX7_thread.2.1 33 = .ok (.iadd, 1) by decide +kernel) ?_
        obtain ⟨hg, hR⟩ := hR
        refine x_iald (pc := 34) rfl (by decide) hg (show decode mX7_thread.2.1 34 = .ok (.iaload, 1) by decide +kernel) ?_
        exact x_iret (pc := 35) rfl (show decode mX7_thread.2.1 35 = .ok (.ireturn, 1) by decide +kernel) ⟨_, rfl, hR⟩
      · replace hR := hR.2 hc
        refine x_iconst (pc := 20) (n := (-1)) (show decode mX7_thread.2.1 20 = .ok (.iconst (-1), 1) by decide +kernel) ?_
        exact x_iret (pc := 21) rfl (show decode mX7_thread.2.1 21 = .ok (.ireturn, 1) by decide +kernel) ⟨_, rfl, hR⟩
  · show xG _ _ _ 8 _ [.inl 0] _ _
    refine x_if_eq (pc := 8) (tgt := 20) (show decode mX7_thread.2.1 8 = .ok (.ifCond .eq 12, 3) by decide +kernel) (by decide) (by unfold inI; decide) (fun _ => ?_) (fun hc => absurd hc (by decide))
    refine x_iconst (pc := 20) (n := (-1)) (show decode mX7_thread.2.1 20 = .ok (.iconst (-1), 1) by decide +kernel) ?_
    exact x_iret (pc := 21) rfl (show decode mX7_thread.2.1 21 = .ok (.ireturn, 1) by decide +kernel) ⟨_, rfl, hR⟩
set_option maxRecDepth 4000 in
theorem sg_X7_where_0 {d : Nat} {x1 : Int} {h : xH} {Q : Int → xH → Prop} (hd : 1 ≤ d)
    (hR : cB wdC (d - 1) mX7_isThread [.inr (.inr 0), .inl x1] h (fun h1 => gI wdC d mX7_where 12 [some (.inr (.inr 0)), some (.inl x1), some (.inl 0)] h1 Q) (fun h1 => Q (-1) h1)) :
    gI wdC d mX7_where 0 [some (.inr (.inr 0)), some (.inl x1), none] h Q := by
  unfold gI
  refine x_aload_n (pc := 0) (show decode mX7_where.2.1 0 = .ok (.aload_n 0, 1) by decide +kernel) rfl rfl ?_
  refine x_iload_n (pc := 1) (show decode mX7_where.2.1 1 = .ok (.iload_n 1, 1) by decide +kernel) rfl rfl ?_
  refine x_callV (pc := 2) (As := [.inl x1]) (rest := []) (lk7_214 rfl) im_X7_isThread sl_X7_isThread rfl rfl rfl (Nat.le_of_ble_eq_true rfl) (Nat.le_of_ble_eq_true rfl) (show decode mX7_where.2.1 2 = .ok (.invokevirtual 214, 3) by decide +kernel) hd hR (fun r9 h1 hq => ?_)
  obtain ⟨r8, rfl, hq⟩ := hq
  rcases hq with ⟨rfl, hR⟩ | ⟨rfl, hR⟩
  · show xG _ _ _ 5 _ [.inl 1] _ _
    refine x_if_ne (pc := 5) (tgt := 10) (show decode mX7_where.2.1 5 = .ok (.ifCond .ne 5, 3) by decide +kernel) (by decide) (by unfold inI; decide) (fun _ => ?_) (fun hc => absurd hc (by decide))
    refine x_iconst (pc := 10) (n := 0) (show decode mX7_where.2.1 10 = .ok (.iconst 0, 1) by decide +kernel) ?_
    refine x_istore_n (pc := 11) (ls' := [some (.inr (.inr 0)), some (.inl x1), some (.inl 0)]) (show decode mX7_where.2.1 11 = .ok (.istore_n 2, 1) by decide +kernel) rfl (by decide) rfl ?_
    exact hR
  · show xG _ _ _ 5 _ [.inl 0] _ _
    refine x_if_ne (pc := 5) (tgt := 10) (show decode mX7_where.2.1 5 = .ok (.ifCond .ne 5, 3) by decide +kernel) (by decide) (by unfold inI; decide) (fun hc => absurd hc (by decide)) (fun _ => ?_)
    refine x_iconst (pc := 8) (n := (-1)) (show decode mX7_where.2.1 8 = .ok (.iconst (-1), 1) by decide +kernel) ?_
    exact x_iret (pc := 9) rfl (show decode mX7_where.2.1 9 = .ok (.ireturn, 1) by decide +kernel) ⟨_, rfl, hR⟩
set_option maxRecDepth 4000 in
theorem sg_X7_where_12 {d : Nat} {x1 x2 : Int} {h : xH} {Q : Int → xH → Prop}
    (hR : (inI x2 ∧ inI (2 * (h 1 0))) ∧ ((2 * (h 1 0)) ≤ x2 → Q (-1) h) ∧ (x2 < (2 * (h 1 0)) → (0 ≤ x2 ∧ x2 < 24) ∧ (inI (h 7 x2) ∧ inI x1) ∧ (¬ (h 7 x2) = x1 → gI wdC d mX7_where 12 [some (.inr (.inr 0)), some (.inl x1), some (.inl (x2 + 1))] h Q) ∧ ((h 7 x2) = x1 → Q x2 h))) :
    gI wdC d mX7_where 12 [some (.inr (.inr 0)), some (.inl x1), some (.inl x2)] h Q := by
  unfold gI
  refine x_iload_n (pc := 12) (show decode mX7_where.2.1 12 = .ok (.iload_n 2, 1) by decide +kernel) rfl rfl ?_
  refine x_iconst (pc := 13) (n := 2) (show decode mX7_where.2.1 13 = .ok (.iconst 2, 1) by decide +kernel) ?_
  refine x_aload_n (pc := 14) (show decode mX7_where.2.1 14 = .ok (.aload_n 0, 1) by decide +kernel) rfl rfl ?_
  refine x_getR (pc := 15) f7_12 rfl rfl (show decode mX7_where.2.1 15 = .ok (.getfield 12, 3) by decide +kernel) ?_
  refine x_getI (pc := 18) (ki := 0) f7_86 rfl rfl (by decide) rfl (show decode mX7_where.2.1 18 = .ok (.getfield 86, 3) by decide +kernel) ?_
  refine x_imul (pc := 21) (show decode mX7_where.2.1 21 = .ok (.imul, 1) by decide +kernel) ?_
  obtain ⟨hg, hR⟩ := hR
  refine x_icmp_ge (pc := 22) (tgt := 46) (show decode mX7_where.2.1 22 = .ok (.if_icmp .ge 24, 3) by decide +kernel) (by decide) ⟨hg.1, hg.2⟩ (fun hc => ?_) (fun hc => ?_)
  · replace hR := hR.1 hc
    refine x_iconst (pc := 46) (n := (-1)) (show decode mX7_where.2.1 46 = .ok (.iconst (-1), 1) by decide +kernel) ?_
    exact x_iret (pc := 47) rfl (show decode mX7_where.2.1 47 = .ok (.ireturn, 1) by decide +kernel) ⟨_, rfl, hR⟩
  · replace hR := hR.2 hc
    refine x_aload_n (pc := 25) (show decode mX7_where.2.1 25 = .ok (.aload_n 0, 1) by decide +kernel) rfl rfl ?_
    refine x_getR (pc := 26) f7_21 rfl rfl (show decode mX7_where.2.1 26 = .ok (.getfield 21, 3) by decide +kernel) ?_
    refine x_getR (pc := 29) f7_211 rfl rfl (show decode mX7_where.2.1 29 = .ok (.getfield 211, 3) by decide +kernel) ?_
    refine x_iload_n (pc := 32) (show decode mX7_where.2.1 32 = .ok (.iload_n 2, 1) by decide +kernel) rfl rfl ?_
    obtain ⟨hg, hR⟩ := hR
    refine x_iald (pc := 33) rfl (by decide) hg (show decode mX7_where.2.1 33 = .ok (.iaload, 1) by decide +kernel) ?_
    refine x_iload_n (pc := 34) (show decode mX7_where.2.1 34 = .ok (.iload_n 1, 1) by decide +kernel) rfl rfl ?_
    obtain ⟨hg, hR⟩ := hR
    refine x_icmp_ne (pc := 35) (tgt := 40) (show decode mX7_where.2.1 35 = .ok (.if_icmp .ne 5, 3) by decide +kernel) (by decide) ⟨hg.1, hg.2⟩ (fun hc => ?_) (fun hc => ?_)
    · replace hR := hR.1 hc
      refine x_iinc (pc := 40) (ls' := [some (.inr (.inr 0)), some (.inl x1), some (.inl (x2 + 1))]) (show decode mX7_where.2.1 40 = .ok (.iinc 2 1, 3) by decide +kernel) (by decide) rfl rfl ?_
      refine x_goto (pc := 43) (tgt := 12) (show decode mX7_where.2.1 43 = .ok (.goto (-31), 3) by decide +kernel) (by decide) ?_
      exact hR
    · replace hR := hR.2 hc
      refine x_iload_n (pc := 38) (show decode mX7_where.2.1 38 = .ok (.iload_n 2, 1) by decide +kernel) rfl rfl ?_
      exact x_iret (pc := 39) rfl (show decode mX7_where.2.1 39 = .ok (.ireturn, 1) by decide +kernel) ⟨_, rfl, hR⟩
set_option maxRecDepth 4000 in
theorem sg_X7_overs_0 {d : Nat} {x1 : Int} {h : xH} {Q : Int → xH → Prop} (hd : 1 ≤ d)
    (hR : cB wdC (d - 1) mX7_isThread [.inr (.inr 0), .inl x1] h (fun h1 => (0 ≤ x1 ∧ x1 < 24) ∧ Q (h1 8 x1) h1) (fun h1 => Q (-1) h1)) :
    gI wdC d mX7_overs 0 [some (.inr (.inr 0)), some (.inl x1)] h Q := by
  unfold gI
  refine x_aload_n (pc := 0) (show decode mX7_overs.2.1 0 = .ok (.aload_n 0, 1) by decide +kernel) rfl rfl ?_
  refine x_iload_n (pc := 1) (show decode mX7_overs.2.1 1 = .ok (.iload_n 1, 1) by decide +kernel) rfl rfl ?_
  refine x_callV (pc := 2) (As := [.inl x1]) (rest := []) (lk7_214 rfl) im_X7_isThread sl_X7_isThread rfl rfl rfl (Nat.le_of_ble_eq_true rfl) (Nat.le_of_ble_eq_true rfl) (show decode mX7_overs.2.1 2 = .ok (.invokevirtual 214, 3) by decide +kernel) hd hR (fun r9 h1 hq => ?_)
  obtain ⟨r8, rfl, hq⟩ := hq
  rcases hq with ⟨rfl, hR⟩ | ⟨rfl, hR⟩
  · show xG _ _ _ 5 _ [.inl 1] _ _
    refine x_if_eq (pc := 5) (tgt := 20) (show decode mX7_overs.2.1 5 = .ok (.ifCond .eq 15, 3) by decide +kernel) (by decide) (by unfold inI; decide) (fun hc => absurd hc (by decide)) (fun _ => ?_)
    refine x_aload_n (pc := 8) (show decode mX7_overs.2.1 8 = .ok (.aload_n 0, 1) by decide +kernel) rfl rfl ?_
    refine x_getR (pc := 9) f7_21 rfl rfl (show decode mX7_overs.2.1 9 = .ok (.getfield 21, 3) by decide +kernel) ?_
    refine x_getR (pc := 12) f7_217 rfl rfl (show decode mX7_overs.2.1 12 = .ok (.getfield 217, 3) by decide +kernel) ?_
    refine x_iload_n (pc := 15) (show decode mX7_overs.2.1 15 = .ok (.iload_n 1, 1) by decide +kernel) rfl rfl ?_
    obtain ⟨hg, hR⟩ := hR
    refine x_iald (pc := 16) rfl (by decide) hg (show decode mX7_overs.2.1 16 = .ok (.iaload, 1) by decide +kernel) ?_
    refine x_goto (pc := 17) (tgt := 21) (show decode mX7_overs.2.1 17 = .ok (.goto 4, 3) by decide +kernel) (by decide) ?_
    exact x_iret (pc := 21) rfl (show decode mX7_overs.2.1 21 = .ok (.ireturn, 1) by decide +kernel) ⟨_, rfl, hR⟩
  · show xG _ _ _ 5 _ [.inl 0] _ _
    refine x_if_eq (pc := 5) (tgt := 20) (show decode mX7_overs.2.1 5 = .ok (.ifCond .eq 15, 3) by decide +kernel) (by decide) (by unfold inI; decide) (fun _ => ?_) (fun hc => absurd hc (by decide))
    refine x_iconst (pc := 20) (n := (-1)) (show decode mX7_overs.2.1 20 = .ok (.iconst (-1), 1) by decide +kernel) ?_
    exact x_iret (pc := 21) rfl (show decode mX7_overs.2.1 21 = .ok (.ireturn, 1) by decide +kernel) ⟨_, rfl, hR⟩
set_option maxRecDepth 4000 in
theorem sg_X7_acts_0 {d : Nat} {x1 : Int} {h : xH} {Q : Int → xH → Prop}
    (hR : (inI x1) ∧ (x1 < 0 → Q (-1) h) ∧ (0 ≤ x1 → (inI x1) ∧ (x1 ≤ 1 → gI wdC d mX7_acts 15 [some (.inr (.inr 0)), some (.inl x1), some (.inl 0), some (.inl 0)] h Q) ∧ (1 < x1 → Q (-1) h))) :
    gI wdC d mX7_acts 0 [some (.inr (.inr 0)), some (.inl x1), none, none] h Q := by
  unfold gI
  refine x_iload_n (pc := 0) (show decode mX7_acts.2.1 0 = .ok (.iload_n 1, 1) by decide +kernel) rfl rfl ?_
  obtain ⟨hg, hR⟩ := hR
  refine x_if_lt (pc := 1) (tgt := 9) (show decode mX7_acts.2.1 1 = .ok (.ifCond .lt 8, 3) by decide +kernel) (by decide) hg (fun hc => ?_) (fun hc => ?_)
  · replace hR := hR.1 hc
    refine x_iconst (pc := 9) (n := (-1)) (show decode mX7_acts.2.1 9 = .ok (.iconst (-1), 1) by decide +kernel) ?_
    exact x_iret (pc := 10) rfl (show decode mX7_acts.2.1 10 = .ok (.ireturn, 1) by decide +kernel) ⟨_, rfl, hR⟩
  · replace hR := hR.2 hc
    refine x_iload_n (pc := 4) (show decode mX7_acts.2.1 4 = .ok (.iload_n 1, 1) by decide +kernel) rfl rfl ?_
    refine x_iconst (pc := 5) (n := 1) (show decode mX7_acts.2.1 5 = .ok (.iconst 1, 1) by decide +kernel) ?_
    obtain ⟨hg, hR⟩ := hR
    refine x_icmp_le (pc := 6) (tgt := 11) (show decode mX7_acts.2.1 6 = .ok (.if_icmp .le 5, 3) by decide +kernel) (by decide) ⟨hg, (by unfold inI; decide)⟩ (fun hc => ?_) (fun hc => ?_)
    · replace hR := hR.1 hc
      refine x_iconst (pc := 11) (n := 0) (show decode mX7_acts.2.1 11 = .ok (.iconst 0, 1) by decide +kernel) ?_
      refine x_istore_n (pc := 12) (ls' := [some (.inr (.inr 0)), some (.inl x1), some (.inl 0), none]) (show decode mX7_acts.2.1 12 = .ok (.istore_n 2, 1) by decide +kernel) rfl (by decide) rfl ?_
      refine x_iconst (pc := 13) (n := 0) (show decode mX7_acts.2.1 13 = .ok (.iconst 0, 1) by decide +kernel) ?_
      refine x_istore_n (pc := 14) (ls' := [some (.inr (.inr 0)), some (.inl x1), some (.inl 0), some (.inl 0)]) (show decode mX7_acts.2.1 14 = .ok (.istore_n 3, 1) by decide +kernel) rfl (by decide) rfl ?_
      exact hR
    · replace hR := hR.2 hc
      refine x_iconst (pc := 9) (n := (-1)) (show decode mX7_acts.2.1 9 = .ok (.iconst (-1), 1) by decide +kernel) ?_
      exact x_iret (pc := 10) rfl (show decode mX7_acts.2.1 10 = .ok (.ireturn, 1) by decide +kernel) ⟨_, rfl, hR⟩
set_option maxRecDepth 4000 in
theorem sg_X7_acts_15 {d : Nat} {x1 x2 x3 : Int} {h : xH} {Q : Int → xH → Prop} (hd : 1 ≤ d)
    (hR : (inI x3 ∧ inI (h 1 2)) ∧ ((h 1 2) ≤ x3 → Q x2 h) ∧ (x3 < (h 1 2) → cB wdC (d - 1) mX0_isDone [.inr (.inr 6), .inl x3] h (fun h1 => (0 ≤ x3 ∧ x3 < 30) ∧ (inI x1) ∧ (¬ x1 = 0 → cI wdC (d - 1) mX7_actsOf [.inl (h1 4 x3), .inl 0] h1 (fun r3 h2 => gI wdC d mX7_acts 15 [some (.inr (.inr 0)), some (.inl x1), some (.inl (x2 + r3)), some (.inl (x3 + 1))] h2 Q)) ∧ (x1 = 0 → cI wdC (d - 1) mX7_actsOf [.inl (h1 4 x3), .inl 1] h1 (fun r5 h4 => gI wdC d mX7_acts 15 [some (.inr (.inr 0)), some (.inl x1), some (.inl (x2 + r5)), some (.inl (x3 + 1))] h4 Q))) (fun h1 => gI wdC d mX7_acts 15 [some (.inr (.inr 0)), some (.inl x1), some (.inl x2), some (.inl (x3 + 1))] h1 Q))) :
    gI wdC d mX7_acts 15 [some (.inr (.inr 0)), some (.inl x1), some (.inl x2), some (.inl x3)] h Q := by
  unfold gI
  refine x_iload_n (pc := 15) (show decode mX7_acts.2.1 15 = .ok (.iload_n 3, 1) by decide +kernel) rfl rfl ?_
  refine x_aload_n (pc := 16) (show decode mX7_acts.2.1 16 = .ok (.aload_n 0, 1) by decide +kernel) rfl rfl ?_
  refine x_getR (pc := 17) f7_12 rfl rfl (show decode mX7_acts.2.1 17 = .ok (.getfield 12, 3) by decide +kernel) ?_
  refine x_getI (pc := 20) (ki := 2) f7_107 rfl rfl (by decide) rfl (show decode mX7_acts.2.1 20 = .ok (.getfield 107, 3) by decide +kernel) ?_
  obtain ⟨hg, hR⟩ := hR
  refine x_icmp_ge (pc := 23) (tgt := 67) (show decode mX7_acts.2.1 23 = .ok (.if_icmp .ge 44, 3) by decide +kernel) (by decide) ⟨hg.1, hg.2⟩ (fun hc => ?_) (fun hc => ?_)
  · replace hR := hR.1 hc
    refine x_iload_n (pc := 67) (show decode mX7_acts.2.1 67 = .ok (.iload_n 2, 1) by decide +kernel) rfl rfl ?_
    exact x_iret (pc := 68) rfl (show decode mX7_acts.2.1 68 = .ok (.ireturn, 1) by decide +kernel) ⟨_, rfl, hR⟩
  · replace hR := hR.2 hc
    refine x_aload_n (pc := 26) (show decode mX7_acts.2.1 26 = .ok (.aload_n 0, 1) by decide +kernel) rfl rfl ?_
    refine x_getR (pc := 27) f7_21 rfl rfl (show decode mX7_acts.2.1 27 = .ok (.getfield 21, 3) by decide +kernel) ?_
    refine x_iload_n (pc := 30) (show decode mX7_acts.2.1 30 = .ok (.iload_n 3, 1) by decide +kernel) rfl rfl ?_
    refine x_callV (pc := 31) (As := [.inl x3]) (rest := []) (lk7_122 rfl) im_X0_isDone sl_X0_isDone rfl rfl rfl (Nat.le_of_ble_eq_true rfl) (Nat.le_of_ble_eq_true rfl) (show decode mX7_acts.2.1 31 = .ok (.invokevirtual 122, 3) by decide +kernel) hd hR (fun r9 h1 hq => ?_)
    obtain ⟨r8, rfl, hq⟩ := hq
    rcases hq with ⟨rfl, hR⟩ | ⟨rfl, hR⟩
    · show xG _ _ _ 34 _ [.inl 1] _ _
      refine x_if_eq (pc := 34) (tgt := 61) (show decode mX7_acts.2.1 34 = .ok (.ifCond .eq 27, 3) by decide +kernel) (by decide) (by unfold inI; decide) (fun hc => absurd hc (by decide)) (fun _ => ?_)
      refine x_iload_n (pc := 37) (show decode mX7_acts.2.1 37 = .ok (.iload_n 2, 1) by decide +kernel) rfl rfl ?_
      refine x_aload_n (pc := 38) (show decode mX7_acts.2.1 38 = .ok (.aload_n 0, 1) by decide +kernel) rfl rfl ?_
      refine x_getR (pc := 39) f7_12 rfl rfl (show decode mX7_acts.2.1 39 = .ok (.getfield 12, 3) by decide +kernel) ?_
      refine x_getR (pc := 42) f7_113 rfl rfl (show decode mX7_acts.2.1 42 = .ok (.getfield 113, 3) by decide +kernel) ?_
      refine x_iload_n (pc := 45) (show decode mX7_acts.2.1 45 = .ok (.iload_n 3, 1) by decide +kernel) rfl rfl ?_
      obtain ⟨hg, hR⟩ := hR
      refine x_iald (pc := 46) rfl (by decide) hg (show decode mX7_acts.2.1 46 = .ok (.iaload, 1) by decide +kernel) ?_
      refine x_iload_n (pc := 47) (show decode mX7_acts.2.1 47 = .ok (.iload_n 1, 1) by decide +kernel) rfl rfl ?_
      obtain ⟨hg, hR⟩ := hR
      refine x_if_ne (pc := 48) (tgt := 55) (show decode mX7_acts.2.1 48 = .ok (.ifCond .ne 7, 3) by decide +kernel) (by decide) hg (fun hc => ?_) (fun hc => ?_)
      · replace hR := hR.1 hc
        refine x_iconst (pc := 55) (n := 0) (show decode mX7_acts.2.1 55 = .ok (.iconst 0, 1) by decide +kernel) ?_
        refine x_callS (pc := 56) (As := [.inl (h1 4 x3), .inl 0]) (rest := [.inl x2]) (lk7_220 rfl) sm_X7_actsOf (Nat.le_of_ble_eq_true rfl) (Nat.le_of_ble_eq_true rfl) (show decode mX7_acts.2.1 56 = .ok (.invokestatic 220, 3) by decide +kernel) hd hR (fun r9 h2 hq => ?_)
        obtain ⟨r3, rfl, hR⟩ := hq
        show xG _ _ _ 59 _ [.inl r3, .inl x2] _ _
        refine x_iadd (pc := 59) (show decode mX7_acts.2.1 59 = .ok (.iadd, 1) by decide +kernel) ?_
        refine x_istore_n (pc := 60) (ls' := [some (.inr (.inr 0)), some (.inl x1), some (.inl (x2 + r3)), some (.inl x3)]) (show decode mX7_acts.2.1 60 = .ok (.istore_n 2, 1) by decide +kernel) rfl (by decide) rfl ?_
        refine x_iinc (pc := 61) (ls' := [some (.inr (.inr 0)), some (.inl x1), some (.inl (x2 + r3)), some (.inl (x3 + 1))]) (show decode mX7_acts.2.1 61 = .ok (.iinc 3 1, 3) by decide +kernel) (by decide) rfl rfl ?_
        refine x_goto (pc := 64) (tgt := 15) (show decode mX7_acts.2.1 64 = .ok (.goto (-49), 3) by decide +kernel) (by decide) ?_
        exact hR
      · replace hR := hR.2 hc
        refine x_iconst (pc := 51) (n := 1) (show decode mX7_acts.2.1 51 = .ok (.iconst 1, 1) by decide +kernel) ?_
        refine x_goto (pc := 52) (tgt := 56) (show decode mX7_acts.2.1 52 = .ok (.goto 4, 3) by decide +kernel) (by decide) ?_
        refine x_callS (pc := 56) (As := [.inl (h1 4 x3), .inl 1]) (rest := [.inl x2]) (lk7_220 rfl) sm_X7_actsOf (Nat.le_of_ble_eq_true rfl) (Nat.le_of_ble_eq_true rfl) (show decode mX7_acts.2.1 56 = .ok (.invokestatic 220, 3) by decide +kernel) hd hR (fun r9 h4 hq => ?_)
        obtain ⟨r5, rfl, hR⟩ := hq
        show xG _ _ _ 59 _ [.inl r5, .inl x2] _ _
        refine x_iadd (pc := 59) (show decode mX7_acts.2.1 59 = .ok (.iadd, 1) by decide +kernel) ?_
        refine x_istore_n (pc := 60) (ls' := [some (.inr (.inr 0)), some (.inl x1), some (.inl (x2 + r5)), some (.inl x3)]) (show decode mX7_acts.2.1 60 = .ok (.istore_n 2, 1) by decide +kernel) rfl (by decide) rfl ?_
        refine x_iinc (pc := 61) (ls' := [some (.inr (.inr 0)), some (.inl x1), some (.inl (x2 + r5)), some (.inl (x3 + 1))]) (show decode mX7_acts.2.1 61 = .ok (.iinc 3 1, 3) by decide +kernel) (by decide) rfl rfl ?_
        refine x_goto (pc := 64) (tgt := 15) (show decode mX7_acts.2.1 64 = .ok (.goto (-49), 3) by decide +kernel) (by decide) ?_
        exact hR
    · show xG _ _ _ 34 _ [.inl 0] _ _
      refine x_if_eq (pc := 34) (tgt := 61) (show decode mX7_acts.2.1 34 = .ok (.ifCond .eq 27, 3) by decide +kernel) (by decide) (by unfold inI; decide) (fun _ => ?_) (fun hc => absurd hc (by decide))
      refine x_iinc (pc := 61) (ls' := [some (.inr (.inr 0)), some (.inl x1), some (.inl x2), some (.inl (x3 + 1))]) (show decode mX7_acts.2.1 61 = .ok (.iinc 3 1, 3) by decide +kernel) (by decide) rfl rfl ?_
      refine x_goto (pc := 64) (tgt := 15) (show decode mX7_acts.2.1 64 = .ok (.goto (-49), 3) by decide +kernel) (by decide) ?_
      exact hR
set_option maxRecDepth 4000 in
theorem sg_X7_hand_0 {d : Nat} {x1 : Int} {h : xH} {Q : Int → xH → Prop} (hd : 1 ≤ d)
    (hR : cB wdC (d - 1) mX3_isSlot [.inr (.inr 1), .inl x1] h (fun h1 => Q (h1 6 6) (xu h1 6 6 x1)) (fun h1 => Q (-1) h1)) :
    gI wdC d mX7_hand 0 [some (.inr (.inr 0)), some (.inl x1), none] h Q := by
  unfold gI
  refine x_aload_n (pc := 0) (show decode mX7_hand.2.1 0 = .ok (.aload_n 0, 1) by decide +kernel) rfl rfl ?_
  refine x_getR (pc := 1) f7_12 rfl rfl (show decode mX7_hand.2.1 1 = .ok (.getfield 12, 3) by decide +kernel) ?_
  refine x_iload_n (pc := 4) (show decode mX7_hand.2.1 4 = .ok (.iload_n 1, 1) by decide +kernel) rfl rfl ?_
  refine x_callV (pc := 5) (As := [.inl x1]) (rest := []) (lk7_132 rfl) im_X3_isSlot sl_X3_isSlot rfl rfl rfl (Nat.le_of_ble_eq_true rfl) (Nat.le_of_ble_eq_true rfl) (show decode mX7_hand.2.1 5 = .ok (.invokevirtual 132, 3) by decide +kernel) hd hR (fun r9 h1 hq => ?_)
  obtain ⟨r8, rfl, hq⟩ := hq
  rcases hq with ⟨rfl, hR⟩ | ⟨rfl, hR⟩
  · show xG _ _ _ 8 _ [.inl 1] _ _
    refine x_if_ne (pc := 8) (tgt := 13) (show decode mX7_hand.2.1 8 = .ok (.ifCond .ne 5, 3) by decide +kernel) (by decide) (by unfold inI; decide) (fun _ => ?_) (fun hc => absurd hc (by decide))
    refine x_aload_n (pc := 13) (show decode mX7_hand.2.1 13 = .ok (.aload_n 0, 1) by decide +kernel) rfl rfl ?_
    refine x_getR (pc := 14) f7_21 rfl rfl (show decode mX7_hand.2.1 14 = .ok (.getfield 21, 3) by decide +kernel) ?_
    refine x_getI (pc := 17) (ki := 6) f7_223 rfl rfl (by decide) rfl (show decode mX7_hand.2.1 17 = .ok (.getfield 223, 3) by decide +kernel) ?_
    refine x_istore_n (pc := 20) (ls' := [some (.inr (.inr 0)), some (.inl x1), some (.inl (h1 6 6))]) (show decode mX7_hand.2.1 20 = .ok (.istore_n 2, 1) by decide +kernel) rfl (by decide) rfl ?_
    refine x_aload_n (pc := 21) (show decode mX7_hand.2.1 21 = .ok (.aload_n 0, 1) by decide +kernel) rfl rfl ?_
    refine x_getR (pc := 22) f7_21 rfl rfl (show decode mX7_hand.2.1 22 = .ok (.getfield 21, 3) by decide +kernel) ?_
    refine x_iload_n (pc := 25) (show decode mX7_hand.2.1 25 = .ok (.iload_n 1, 1) by decide +kernel) rfl rfl ?_
    refine x_putI (pc := 26) (ki := 6) f7_223 fp0_6 rfl rfl rfl (show decode mX7_hand.2.1 26 = .ok (.putfield 223, 3) by decide +kernel) ?_
    refine x_iload_n (pc := 29) (show decode mX7_hand.2.1 29 = .ok (.iload_n 2, 1) by decide +kernel) rfl rfl ?_
    exact x_iret (pc := 30) rfl (show decode mX7_hand.2.1 30 = .ok (.ireturn, 1) by decide +kernel) ⟨_, rfl, hR⟩
  · show xG _ _ _ 8 _ [.inl 0] _ _
    refine x_if_ne (pc := 8) (tgt := 13) (show decode mX7_hand.2.1 8 = .ok (.ifCond .ne 5, 3) by decide +kernel) (by decide) (by unfold inI; decide) (fun hc => absurd hc (by decide)) (fun _ => ?_)
    refine x_iconst (pc := 11) (n := (-1)) (show decode mX7_hand.2.1 11 = .ok (.iconst (-1), 1) by decide +kernel) ?_
    exact x_iret (pc := 12) rfl (show decode mX7_hand.2.1 12 = .ok (.ireturn, 1) by decide +kernel) ⟨_, rfl, hR⟩
set_option maxRecDepth 4000 in
theorem sg_X7_orders_0 {d : Nat} {h : xH} {Q : Int → xH → Prop} (hd : 1 ≤ d)
    (hR : cB wdC (d - 1) mX7_think [.inr (.inr 0)] h (fun h1 => cL wdC (d - 1) mX6_lawfulOrders [.inr (.inr 32)] h1 (fun r3 h2 => Q r3 h2)) (fun h1 => Q (-3) h1)) :
    gL wdC d mX7_orders 0 [some (.inr (.inr 0))] h Q := by
  unfold gL
  refine x_aload_n (pc := 0) (show decode mX7_orders.2.1 0 = .ok (.aload_n 0, 1) by decide +kernel) rfl rfl ?_
  refine x_callV (pc := 1) (As := []) (rest := []) (lk7_226 rfl) im_X7_think sl_X7_think rfl rfl rfl (Nat.le_of_ble_eq_true rfl) (Nat.le_of_ble_eq_true rfl) (show decode mX7_orders.2.1 1 = .ok (.invokevirtual 226, 3) by decide +kernel) hd hR (fun r9 h1 hq => ?_)
  obtain ⟨r8, rfl, hq⟩ := hq
  rcases hq with ⟨rfl, hR⟩ | ⟨rfl, hR⟩
  · show xG _ _ _ 4 _ [.inl 1] _ _
    refine x_if_ne (pc := 4) (tgt := 11) (show decode mX7_orders.2.1 4 = .ok (.ifCond .ne 7, 3) by decide +kernel) (by decide) (by unfold inI; decide) (fun _ => ?_) (fun hc => absurd hc (by decide))
    refine x_aload_n (pc := 11) (show decode mX7_orders.2.1 11 = .ok (.aload_n 0, 1) by decide +kernel) rfl rfl ?_
    refine x_getR (pc := 12) f7_48 rfl rfl (show decode mX7_orders.2.1 12 = .ok (.getfield 48, 3) by decide +kernel) ?_
    refine x_callV (pc := 15) (As := []) (rest := []) (lk7_231 rfl) im_X6_lawfulOrders sl_X6_lawfulOrders rfl rfl rfl (Nat.le_of_ble_eq_true rfl) (Nat.le_of_ble_eq_true rfl) (show decode mX7_orders.2.1 15 = .ok (.invokevirtual 231, 3) by decide +kernel) hd hR (fun r9 h2 hq => ?_)
    obtain ⟨r3, rfl, hR⟩ := hq
    show xG _ _ _ 18 _ [.inr (.inl r3)] _ _
    exact x_lret (pc := 18) rfl (show decode mX7_orders.2.1 18 = .ok (.lreturn, 1) by decide +kernel) ⟨_, rfl, hR⟩
  · show xG _ _ _ 4 _ [.inl 0] _ _
    refine x_if_ne (pc := 4) (tgt := 11) (show decode mX7_orders.2.1 4 = .ok (.ifCond .ne 7, 3) by decide +kernel) (by decide) (by unfold inI; decide) (fun hc => absurd hc (by decide)) (fun _ => ?_)
    refine x_ldc2 (pc := 7) (n := (-3)) (tblG_m3 135 rfl rfl) rfl (show decode mX7_orders.2.1 7 = .ok (.ldc2_w 229, 3) by decide +kernel) ?_
    exact x_lret (pc := 10) rfl (show decode mX7_orders.2.1 10 = .ok (.lreturn, 1) by decide +kernel) ⟨_, rfl, hR⟩
set_option maxRecDepth 4000 in
theorem sg_X7_order_0 {d : Nat} {x1 x3 : Int} {h : xH} {Q : Int → xH → Prop} (hd : 1 ≤ d)
    (hR : cB wdC (d - 1) mX7_think [.inr (.inr 0)] h (fun h1 => (inI x3) ∧ (x3 < 0 → Q (-1) h1) ∧ (0 ≤ x3 → (inI x3 ∧ inI (h1 32 0)) ∧ (x3 < (h1 32 0) → (inL x1) ∧ (x1 < 0 → Q (-1) h1) ∧ (0 ≤ x1 → cL wdC (d - 1) mX6_lawfulOrders [.inr (.inr 32)] h1 (fun r3 h2 => (inL x1 ∧ inL r3) ∧ (x1 < r3 → cI wdC (d - 1) mX6_pinOfOrder [.inr (.inr 32), .inr (.inl x1), .inl x3] h2 (fun r5 h4 => Q r5 h4)) ∧ (r3 ≤ x1 → Q (-1) h2)))) ∧ ((h1 32 0) ≤ x3 → Q (-1) h1))) (fun h1 => Q (-3) h1)) :
    gI wdC d mX7_order 0 [some (.inr (.inr 0)), some (.inr (.inl x1)), none, some (.inl x3)] h Q := by
  unfold gI
  refine x_aload_n (pc := 0) (show decode mX7_order.2.1 0 = .ok (.aload_n 0, 1) by decide +kernel) rfl rfl ?_
  refine x_callV (pc := 1) (As := []) (rest := []) (lk7_226 rfl) im_X7_think sl_X7_think rfl rfl rfl (Nat.le_of_ble_eq_true rfl) (Nat.le_of_ble_eq_true rfl) (show decode mX7_order.2.1 1 = .ok (.invokevirtual 226, 3) by decide +kernel) hd hR (fun r9 h1 hq => ?_)
  obtain ⟨r8, rfl, hq⟩ := hq
  rcases hq with ⟨rfl, hR⟩ | ⟨rfl, hR⟩
  · show xG _ _ _ 4 _ [.inl 1] _ _
    refine x_if_ne (pc := 4) (tgt := 10) (show decode mX7_order.2.1 4 = .ok (.ifCond .ne 6, 3) by decide +kernel) (by decide) (by unfold inI; decide) (fun _ => ?_) (fun hc => absurd hc (by decide))
    refine x_iload_n (pc := 10) (show decode mX7_order.2.1 10 = .ok (.iload_n 3, 1) by decide +kernel) rfl rfl ?_
    obtain ⟨hg, hR⟩ := hR
    refine x_if_lt (pc := 11) (tgt := 25) (show decode mX7_order.2.1 11 = .ok (.ifCond .lt 14, 3) by decide +kernel) (by decide) hg (fun hc => ?_) (fun hc => ?_)
    · replace hR := hR.1 hc
      refine x_iconst (pc := 25) (n := (-1)) (show decode mX7_order.2.1 25 = .ok (.iconst (-1), 1) by decide +kernel) ?_
      exact x_iret (pc := 26) rfl (show decode mX7_order.2.1 26 = .ok (.ireturn, 1) by decide +kernel) ⟨_, rfl, hR⟩
    · replace hR := hR.2 hc
      refine x_iload_n (pc := 14) (show decode mX7_order.2.1 14 = .ok (.iload_n 3, 1) by decide +kernel) rfl rfl ?_
      refine x_aload_n (pc := 15) (show decode mX7_order.2.1 15 = .ok (.aload_n 0, 1) by decide +kernel) rfl rfl ?_
      refine x_getR (pc := 16) f7_48 rfl rfl (show decode mX7_order.2.1 16 = .ok (.getfield 48, 3) by decide +kernel) ?_
      refine x_getI (pc := 19) (ki := 0) f7_234 rfl rfl (by decide) rfl (show decode mX7_order.2.1 19 = .ok (.getfield 234, 3) by decide +kernel) ?_
      obtain ⟨hg, hR⟩ := hR
      refine x_icmp_lt (pc := 22) (tgt := 27) (show decode mX7_order.2.1 22 = .ok (.if_icmp .lt 5, 3) by decide +kernel) (by decide) ⟨hg.1, hg.2⟩ (fun hc => ?_) (fun hc => ?_)
      · replace hR := hR.1 hc
        refine x_lload_n (pc := 27) (show decode mX7_order.2.1 27 = .ok (.lload_n 1, 1) by decide +kernel) rfl rfl ?_
        refine x_lconst (pc := 28) (v := 0) (show decode mX7_order.2.1 28 = .ok (.lconst 0, 1) by decide +kernel) rfl ?_
        obtain ⟨hg, hR⟩ := hR
        refine x_lcmp (pc := 29) (show decode mX7_order.2.1 29 = .ok (.lcmp, 1) by decide +kernel) ⟨hg, (by unfold inL; decide)⟩ ?_
        refine x_if_lt (pc := 30) (tgt := 45) (show decode mX7_order.2.1 30 = .ok (.ifCond .lt 15, 3) by decide +kernel) (by decide) (xcmp_in _ _) (fun hc => ?_) (fun hc => ?_)
        · replace hR := hR.1 (xcmp_lt.mp hc)
          refine x_iconst (pc := 45) (n := (-1)) (show decode mX7_order.2.1 45 = .ok (.iconst (-1), 1) by decide +kernel) ?_
          exact x_iret (pc := 46) rfl (show decode mX7_order.2.1 46 = .ok (.ireturn, 1) by decide +kernel) ⟨_, rfl, hR⟩
        · replace hR := hR.2 (xcmp_ge.mp hc)
          refine x_lload_n (pc := 33) (show decode mX7_order.2.1 33 = .ok (.lload_n 1, 1) by decide +kernel) rfl rfl ?_
          refine x_aload_n (pc := 34) (show decode mX7_order.2.1 34 = .ok (.aload_n 0, 1) by decide +kernel) rfl rfl ?_
          refine x_getR (pc := 35) f7_48 rfl rfl (show decode mX7_order.2.1 35 = .ok (.getfield 48, 3) by decide +kernel) ?_
          refine x_callV (pc := 38) (As := []) (rest := [.inr (.inl x1)]) (lk7_231 rfl) im_X6_lawfulOrders sl_X6_lawfulOrders rfl rfl rfl (Nat.le_of_ble_eq_true rfl) (Nat.le_of_ble_eq_true rfl) (show decode mX7_order.2.1 38 = .ok (.invokevirtual 231, 3) by decide +kernel) hd hR (fun r9 h2 hq => ?_)
          obtain ⟨r3, rfl, hR⟩ := hq
          show xG _ _ _ 41 _ [.inr (.inl r3), .inr (.inl x1)] _ _
          obtain ⟨hg, hR⟩ := hR
          refine x_lcmp (pc := 41) (show decode mX7_order.2.1 41 = .ok (.lcmp, 1) by decide +kernel) ⟨hg.1, hg.2⟩ ?_
          refine x_if_lt (pc := 42) (tgt := 47) (show decode mX7_order.2.1 42 = .ok (.ifCond .lt 5, 3) by decide +kernel) (by decide) (xcmp_in _ _) (fun hc => ?_) (fun hc => ?_)
          · replace hR := hR.1 (xcmp_lt.mp hc)
            refine x_aload_n (pc := 47) (show decode mX7_order.2.1 47 = .ok (.aload_n 0, 1) by decide +kernel) rfl rfl ?_
            refine x_getR (pc := 48) f7_48 rfl rfl (show decode mX7_order.2.1 48 = .ok (.getfield 48, 3) by decide +kernel) ?_
            refine x_lload_n (pc := 51) (show decode mX7_order.2.1 51 = .ok (.lload_n 1, 1) by decide +kernel) rfl rfl ?_
            refine x_iload_n (pc := 52) (show decode mX7_order.2.1 52 = .ok (.iload_n 3, 1) by decide +kernel) rfl rfl ?_
            refine x_callV (pc := 53) (As := [.inr (.inl x1), .inl x3]) (rest := []) (lk7_237 rfl) im_X6_pinOfOrder sl_X6_pinOfOrder rfl rfl rfl (Nat.le_of_ble_eq_true rfl) (Nat.le_of_ble_eq_true rfl) (show decode mX7_order.2.1 53 = .ok (.invokevirtual 237, 3) by decide +kernel) hd hR (fun r9 h4 hq => ?_)
            obtain ⟨r5, rfl, hR⟩ := hq
            show xG _ _ _ 56 _ [.inl r5] _ _
            exact x_iret (pc := 56) rfl (show decode mX7_order.2.1 56 = .ok (.ireturn, 1) by decide +kernel) ⟨_, rfl, hR⟩
          · replace hR := hR.2 (xcmp_ge.mp hc)
            refine x_iconst (pc := 45) (n := (-1)) (show decode mX7_order.2.1 45 = .ok (.iconst (-1), 1) by decide +kernel) ?_
            exact x_iret (pc := 46) rfl (show decode mX7_order.2.1 46 = .ok (.ireturn, 1) by decide +kernel) ⟨_, rfl, hR⟩
      · replace hR := hR.2 hc
        refine x_iconst (pc := 25) (n := (-1)) (show decode mX7_order.2.1 25 = .ok (.iconst (-1), 1) by decide +kernel) ?_
        exact x_iret (pc := 26) rfl (show decode mX7_order.2.1 26 = .ok (.ireturn, 1) by decide +kernel) ⟨_, rfl, hR⟩
  · show xG _ _ _ 4 _ [.inl 0] _ _
    refine x_if_ne (pc := 4) (tgt := 10) (show decode mX7_order.2.1 4 = .ok (.ifCond .ne 6, 3) by decide +kernel) (by decide) (by unfold inI; decide) (fun hc => absurd hc (by decide)) (fun _ => ?_)
    refine x_bipush (pc := 7) (n := (-3)) (show decode mX7_order.2.1 7 = .ok (.bipush (-3), 2) by decide +kernel) rfl ?_
    exact x_iret (pc := 9) rfl (show decode mX7_order.2.1 9 = .ok (.ireturn, 1) by decide +kernel) ⟨_, rfl, hR⟩
set_option maxRecDepth 4000 in
theorem sg_X7_travel_0 {d : Nat} {h : xH} {Q : Int → xH → Prop} (hd : 1 ≤ d)
    (hR : cB wdC (d - 1) mX7_think [.inr (.inr 0)] h (fun h1 => (inI (h1 32 1)) ∧ (¬ (h1 32 1) = 0 → cI wdC (d - 1) mX6_leastTravel [.inr (.inr 32), .inl (h1 6 6)] h1 (fun r3 h2 => Q r3 h2)) ∧ ((h1 32 1) = 0 → Q (-5) h1)) (fun h1 => Q (-3) h1)) :
    gI wdC d mX7_travel 0 [some (.inr (.inr 0))] h Q := by
  unfold gI
  refine x_aload_n (pc := 0) (show decode mX7_travel.2.1 0 = .ok (.aload_n 0, 1) by decide +kernel) rfl rfl ?_
  refine x_callV (pc := 1) (As := []) (rest := []) (lk7_226 rfl) im_X7_think sl_X7_think rfl rfl rfl (Nat.le_of_ble_eq_true rfl) (Nat.le_of_ble_eq_true rfl) (show decode mX7_travel.2.1 1 = .ok (.invokevirtual 226, 3) by decide +kernel) hd hR (fun r9 h1 hq => ?_)
  obtain ⟨r8, rfl, hq⟩ := hq
  rcases hq with ⟨rfl, hR⟩ | ⟨rfl, hR⟩
  · show xG _ _ _ 4 _ [.inl 1] _ _
    refine x_if_ne (pc := 4) (tgt := 10) (show decode mX7_travel.2.1 4 = .ok (.ifCond .ne 6, 3) by decide +kernel) (by decide) (by unfold inI; decide) (fun _ => ?_) (fun hc => absurd hc (by decide))
    refine x_aload_n (pc := 10) (show decode mX7_travel.2.1 10 = .ok (.aload_n 0, 1) by decide +kernel) rfl rfl ?_
    refine x_getR (pc := 11) f7_48 rfl rfl (show decode mX7_travel.2.1 11 = .ok (.getfield 48, 3) by decide +kernel) ?_
    refine x_getI (pc := 14) (ki := 1) f7_241 rfl rfl (by decide) rfl (show decode mX7_travel.2.1 14 = .ok (.getfield 241, 3) by decide +kernel) ?_
    obtain ⟨hg, hR⟩ := hR
    refine x_if_ne (pc := 17) (tgt := 23) (show decode mX7_travel.2.1 17 = .ok (.ifCond .ne 6, 3) by decide +kernel) (by decide) hg (fun hc => ?_) (fun hc => ?_)
    · replace hR := hR.1 hc
      refine x_aload_n (pc := 23) (show decode mX7_travel.2.1 23 = .ok (.aload_n 0, 1) by decide +kernel) rfl rfl ?_
      refine x_getR (pc := 24) f7_48 rfl rfl (show decode mX7_travel.2.1 24 = .ok (.getfield 48, 3) by decide +kernel) ?_
      refine x_aload_n (pc := 27) (show decode mX7_travel.2.1 27 = .ok (.aload_n 0, 1) by decide +kernel) rfl rfl ?_
      refine x_getR (pc := 28) f7_21 rfl rfl (show decode mX7_travel.2.1 28 = .ok (.getfield 21, 3) by decide +kernel) ?_
      refine x_getI (pc := 31) (ki := 6) f7_223 rfl rfl (by decide) rfl (show decode mX7_travel.2.1 31 = .ok (.getfield 223, 3) by decide +kernel) ?_
      refine x_callV (pc := 34) (As := [.inl (h1 6 6)]) (rest := []) (lk7_244 rfl) im_X6_leastTravel sl_X6_leastTravel rfl rfl rfl (Nat.le_of_ble_eq_true rfl) (Nat.le_of_ble_eq_true rfl) (show decode mX7_travel.2.1 34 = .ok (.invokevirtual 244, 3) by decide +kernel) hd hR (fun r9 h2 hq => ?_)
      obtain ⟨r3, rfl, hR⟩ := hq
      show xG _ _ _ 37 _ [.inl r3] _ _
      exact x_iret (pc := 37) rfl (show decode mX7_travel.2.1 37 = .ok (.ireturn, 1) by decide +kernel) ⟨_, rfl, hR⟩
    · replace hR := hR.2 hc
      refine x_bipush (pc := 20) (n := (-5)) (show decode mX7_travel.2.1 20 = .ok (.bipush (-5), 2) by decide +kernel) rfl ?_
      exact x_iret (pc := 22) rfl (show decode mX7_travel.2.1 22 = .ok (.ireturn, 1) by decide +kernel) ⟨_, rfl, hR⟩
  · show xG _ _ _ 4 _ [.inl 0] _ _
    refine x_if_ne (pc := 4) (tgt := 10) (show decode mX7_travel.2.1 4 = .ok (.ifCond .ne 6, 3) by decide +kernel) (by decide) (by unfold inI; decide) (fun hc => absurd hc (by decide)) (fun _ => ?_)
    refine x_bipush (pc := 7) (n := (-3)) (show decode mX7_travel.2.1 7 = .ok (.bipush (-3), 2) by decide +kernel) rfl ?_
    exact x_iret (pc := 9) rfl (show decode mX7_travel.2.1 9 = .ok (.ireturn, 1) by decide +kernel) ⟨_, rfl, hR⟩
set_option maxRecDepth 4000 in
theorem sg_X7_along_0 {d : Nat} {x1 : Int} {h : xH} {Q : Int → xH → Prop} (hd : 1 ≤ d)
    (hR : cB wdC (d - 1) mX7_think [.inr (.inr 0)] h (fun h1 => (inI (h1 32 1)) ∧ (¬ (h1 32 1) = 0 → (inI x1) ∧ (x1 < 0 → Q (-1) h1) ∧ (0 ≤ x1 → (inI x1 ∧ inI (h1 32 0)) ∧ (x1 < (h1 32 0) → cI wdC (d - 1) mX6_pinOfLeast [.inr (.inr 32), .inl (h1 6 6), .inl x1] h1 (fun r3 h2 => Q r3 h2)) ∧ ((h1 32 0) ≤ x1 → Q (-1) h1))) ∧ ((h1 32 1) = 0 → Q (-3) h1)) (fun h1 => Q (-3) h1)) :
    gI wdC d mX7_along 0 [some (.inr (.inr 0)), some (.inl x1)] h Q := by
  unfold gI
  refine x_aload_n (pc := 0) (show decode mX7_along.2.1 0 = .ok (.aload_n 0, 1) by decide +kernel) rfl rfl ?_
  refine x_callV (pc := 1) (As := []) (rest := []) (lk7_226 rfl) im_X7_think sl_X7_think rfl rfl rfl (Nat.le_of_ble_eq_true rfl) (Nat.le_of_ble_eq_true rfl) (show decode mX7_along.2.1 1 = .ok (.invokevirtual 226, 3) by decide +kernel) hd hR (fun r9 h1 hq => ?_)
  obtain ⟨r8, rfl, hq⟩ := hq
  rcases hq with ⟨rfl, hR⟩ | ⟨rfl, hR⟩
  · show xG _ _ _ 4 _ [.inl 1] _ _
    refine x_if_eq (pc := 4) (tgt := 17) (show decode mX7_along.2.1 4 = .ok (.ifCond .eq 13, 3) by decide +kernel) (by decide) (by unfold inI; decide) (fun hc => absurd hc (by decide)) (fun _ => ?_)
    refine x_aload_n (pc := 7) (show decode mX7_along.2.1 7 = .ok (.aload_n 0, 1) by decide +kernel) rfl rfl ?_
    refine x_getR (pc := 8) f7_48 rfl rfl (show decode mX7_along.2.1 8 = .ok (.getfield 48, 3) by decide +kernel) ?_
    refine x_getI (pc := 11) (ki := 1) f7_241 rfl rfl (by decide) rfl (show decode mX7_along.2.1 11 = .ok (.getfield 241, 3) by decide +kernel) ?_
    obtain ⟨hg, hR⟩ := hR
    refine x_if_ne (pc := 14) (tgt := 20) (show decode mX7_along.2.1 14 = .ok (.ifCond .ne 6, 3) by decide +kernel) (by decide) hg (fun hc => ?_) (fun hc => ?_)
    · replace hR := hR.1 hc
      refine x_iload_n (pc := 20) (show decode mX7_along.2.1 20 = .ok (.iload_n 1, 1) by decide +kernel) rfl rfl ?_
      obtain ⟨hg, hR⟩ := hR
      refine x_if_lt (pc := 21) (tgt := 35) (show decode mX7_along.2.1 21 = .ok (.ifCond .lt 14, 3) by decide +kernel) (by decide) hg (fun hc => ?_) (fun hc => ?_)
      · replace hR := hR.1 hc
        refine x_iconst (pc := 35) (n := (-1)) (show decode mX7_along.2.1 35 = .ok (.iconst (-1), 1) by decide +kernel) ?_
        exact x_iret (pc := 36) rfl (show decode mX7_along.2.1 36 = .ok (.ireturn, 1) by decide +kernel) ⟨_, rfl, hR⟩
      · replace hR := hR.2 hc
        refine x_iload_n (pc := 24) (show decode mX7_along.2.1 24 = .ok (.iload_n 1, 1) by decide +kernel) rfl rfl ?_
        refine x_aload_n (pc := 25) (show decode mX7_along.2.1 25 = .ok (.aload_n 0, 1) by decide +kernel) rfl rfl ?_
        refine x_getR (pc := 26) f7_48 rfl rfl (show decode mX7_along.2.1 26 = .ok (.getfield 48, 3) by decide +kernel) ?_
        refine x_getI (pc := 29) (ki := 0) f7_234 rfl rfl (by decide) rfl (show decode mX7_along.2.1 29 = .ok (.getfield 234, 3) by decide +kernel) ?_
        obtain ⟨hg, hR⟩ := hR
        refine x_icmp_lt (pc := 32) (tgt := 37) (show decode mX7_along.2.1 32 = .ok (.if_icmp .lt 5, 3) by decide +kernel) (by decide) ⟨hg.1, hg.2⟩ (fun hc => ?_) (fun hc => ?_)
        · replace hR := hR.1 hc
          refine x_aload_n (pc := 37) (show decode mX7_along.2.1 37 = .ok (.aload_n 0, 1) by decide +kernel) rfl rfl ?_
          refine x_getR (pc := 38) f7_48 rfl rfl (show decode mX7_along.2.1 38 = .ok (.getfield 48, 3) by decide +kernel) ?_
          refine x_aload_n (pc := 41) (show decode mX7_along.2.1 41 = .ok (.aload_n 0, 1) by decide +kernel) rfl rfl ?_
          refine x_getR (pc := 42) f7_21 rfl rfl (show decode mX7_along.2.1 42 = .ok (.getfield 21, 3) by decide +kernel) ?_
          refine x_getI (pc := 45) (ki := 6) f7_223 rfl rfl (by decide) rfl (show decode mX7_along.2.1 45 = .ok (.getfield 223, 3) by decide +kernel) ?_
          refine x_iload_n (pc := 48) (show decode mX7_along.2.1 48 = .ok (.iload_n 1, 1) by decide +kernel) rfl rfl ?_
          refine x_callV (pc := 49) (As := [.inl (h1 6 6), .inl x1]) (rest := []) (lk7_247 rfl) im_X6_pinOfLeast sl_X6_pinOfLeast rfl rfl rfl (Nat.le_of_ble_eq_true rfl) (Nat.le_of_ble_eq_true rfl) (show decode mX7_along.2.1 49 = .ok (.invokevirtual 247, 3) by decide +kernel) hd hR (fun r9 h2 hq => ?_)
          obtain ⟨r3, rfl, hR⟩ := hq
          show xG _ _ _ 52 _ [.inl r3] _ _
          exact x_iret (pc := 52) rfl (show decode mX7_along.2.1 52 = .ok (.ireturn, 1) by decide +kernel) ⟨_, rfl, hR⟩
        · replace hR := hR.2 hc
          refine x_iconst (pc := 35) (n := (-1)) (show decode mX7_along.2.1 35 = .ok (.iconst (-1), 1) by decide +kernel) ?_
          exact x_iret (pc := 36) rfl (show decode mX7_along.2.1 36 = .ok (.ireturn, 1) by decide +kernel) ⟨_, rfl, hR⟩
    · replace hR := hR.2 hc
      refine x_bipush (pc := 17) (n := (-3)) (show decode mX7_along.2.1 17 = .ok (.bipush (-3), 2) by decide +kernel) rfl ?_
      exact x_iret (pc := 19) rfl (show decode mX7_along.2.1 19 = .ok (.ireturn, 1) by decide +kernel) ⟨_, rfl, hR⟩
  · show xG _ _ _ 4 _ [.inl 0] _ _
    refine x_if_eq (pc := 4) (tgt := 17) (show decode mX7_along.2.1 4 = .ok (.ifCond .eq 13, 3) by decide +kernel) (by decide) (by unfold inI; decide) (fun _ => ?_) (fun hc => absurd hc (by decide))
    refine x_bipush (pc := 17) (n := (-3)) (show decode mX7_along.2.1 17 = .ok (.bipush (-3), 2) by decide +kernel) rfl ?_
    exact x_iret (pc := 19) rfl (show decode mX7_along.2.1 19 = .ok (.ireturn, 1) by decide +kernel) ⟨_, rfl, hR⟩
set_option maxRecDepth 4000 in
theorem sg_X7_pairs_0 {d : Nat} {x1 : Int} {h : xH} {Q : Int → xH → Prop} (hd : 1 ≤ d)
    (hR : cV wdC (d - 1) mX1_join [.inr (.inr 39), .inr (.inr 1)] h (fun h1 => inI x1 ∧ (x1 = 0 → cI wdC (d - 1) mJ_bitCount [.inl (h1 1 1)] h1 (fun r3 h2 => Q ((r3 + (h2 39 0)) - (h2 39 2)) h2)) ∧ (x1 = 1 → Q (h1 39 2) h1) ∧ (x1 = 2 → Q (h1 39 3) h1) ∧ ((x1 < 0 ∨ 2 < x1) → Q (-1) h1))) :
    gI wdC d mX7_pairs 0 [some (.inr (.inr 0)), some (.inl x1)] h Q := by
  unfold gI
  refine x_aload_n (pc := 0) (show decode mX7_pairs.2.1 0 = .ok (.aload_n 0, 1) by decide +kernel) rfl rfl ?_
  refine x_getR (pc := 1) f7_55 rfl rfl (show decode mX7_pairs.2.1 1 = .ok (.getfield 55, 3) by decide +kernel) ?_
  refine x_aload_n (pc := 4) (show decode mX7_pairs.2.1 4 = .ok (.aload_n 0, 1) by decide +kernel) rfl rfl ?_
  refine x_getR (pc := 5) f7_12 rfl rfl (show decode mX7_pairs.2.1 5 = .ok (.getfield 12, 3) by decide +kernel) ?_
  refine x_callV (pc := 8) (As := [.inr (.inr 1)]) (rest := []) (lk7_250 rfl) im_X1_join sl_X1_join rfl rfl rfl (Nat.le_of_ble_eq_true rfl) (Nat.le_of_ble_eq_true rfl) (show decode mX7_pairs.2.1 8 = .ok (.invokevirtual 250, 3) by decide +kernel) hd hR (fun r9 h1 hq => ?_)
  obtain ⟨rfl, hR⟩ := hq
  show xG _ _ _ 11 _ [] _ _
  refine x_iload_n (pc := 11) (show decode mX7_pairs.2.1 11 = .ok (.iload_n 1, 1) by decide +kernel) rfl rfl ?_
  obtain ⟨hg, hR⟩ := hR
  rcases (show x1 = 0 ∨ x1 = 1 ∨ x1 = 2 ∨ (x1 < 0 ∨ 2 < x1) by omega) with hc | hc | hc | hc
  · replace hR := hR.1 hc
    refine x_tswAt (pc := 12) (n := 0) (tgt := 40) (show decode mX7_pairs.2.1 12 = .ok (.tableswitch 71 0 2 #[28, 55, 63], 28) by decide +kernel) hg hc (by decide) rfl (by decide) ?_
    refine x_aload_n (pc := 40) (show decode mX7_pairs.2.1 40 = .ok (.aload_n 0, 1) by decide +kernel) rfl rfl ?_
    refine x_getR (pc := 41) f7_12 rfl rfl (show decode mX7_pairs.2.1 41 = .ok (.getfield 12, 3) by decide +kernel) ?_
    refine x_getI (pc := 44) (ki := 1) f7_253 rfl rfl (by decide) rfl (show decode mX7_pairs.2.1 44 = .ok (.getfield 253, 3) by decide +kernel) ?_
    refine x_callS (pc := 47) (As := [.inl (h1 1 1)]) (rest := []) (lk7_256 rfl) sm_J_bitCount (Nat.le_of_ble_eq_true rfl) (Nat.le_of_ble_eq_true rfl) (show decode mX7_pairs.2.1 47 = .ok (.invokestatic 256, 3) by decide +kernel) hd hR (fun r9 h2 hq => ?_)
    obtain ⟨r3, rfl, hR⟩ := hq
    show xG _ _ _ 50 _ [.inl r3] _ _
    refine x_aload_n (pc := 50) (show decode mX7_pairs.2.1 50 = .ok (.aload_n 0, 1) by decide +kernel) rfl rfl ?_
    refine x_getR (pc := 51) f7_55 rfl rfl (show decode mX7_pairs.2.1 51 = .ok (.getfield 55, 3) by decide +kernel) ?_
    refine x_getI (pc := 54) (ki := 0) f7_261 rfl rfl (by decide) rfl (show decode mX7_pairs.2.1 54 = .ok (.getfield 261, 3) by decide +kernel) ?_
    refine x_iadd (pc := 57) (show decode mX7_pairs.2.1 57 = .ok (.iadd, 1) by decide +kernel) ?_
    refine x_aload_n (pc := 58) (show decode mX7_pairs.2.1 58 = .ok (.aload_n 0, 1) by decide +kernel) rfl rfl ?_
    refine x_getR (pc := 59) f7_55 rfl rfl (show decode mX7_pairs.2.1 59 = .ok (.getfield 55, 3) by decide +kernel) ?_
    refine x_getI (pc := 62) (ki := 2) f7_264 rfl rfl (by decide) rfl (show decode mX7_pairs.2.1 62 = .ok (.getfield 264, 3) by decide +kernel) ?_
    refine x_isub (pc := 65) (show decode mX7_pairs.2.1 65 = .ok (.isub, 1) by decide +kernel) ?_
    exact x_iret (pc := 66) rfl (show decode mX7_pairs.2.1 66 = .ok (.ireturn, 1) by decide +kernel) ⟨_, rfl, hR⟩
  · replace hR := hR.2.1 hc
    refine x_tswAt (pc := 12) (n := 1) (tgt := 67) (show decode mX7_pairs.2.1 12 = .ok (.tableswitch 71 0 2 #[28, 55, 63], 28) by decide +kernel) hg hc (by decide) rfl (by decide) ?_
    refine x_aload_n (pc := 67) (show decode mX7_pairs.2.1 67 = .ok (.aload_n 0, 1) by decide +kernel) rfl rfl ?_
    refine x_getR (pc := 68) f7_55 rfl rfl (show decode mX7_pairs.2.1 68 = .ok (.getfield 55, 3) by decide +kernel) ?_
    refine x_getI (pc := 71) (ki := 2) f7_264 rfl rfl (by decide) rfl (show decode mX7_pairs.2.1 71 = .ok (.getfield 264, 3) by decide +kernel) ?_
    exact x_iret (pc := 74) rfl (show decode mX7_pairs.2.1 74 = .ok (.ireturn, 1) by decide +kernel) ⟨_, rfl, hR⟩
  · replace hR := hR.2.2.1 hc
    refine x_tswAt (pc := 12) (n := 2) (tgt := 75) (show decode mX7_pairs.2.1 12 = .ok (.tableswitch 71 0 2 #[28, 55, 63], 28) by decide +kernel) hg hc (by decide) rfl (by decide) ?_
    refine x_aload_n (pc := 75) (show decode mX7_pairs.2.1 75 = .ok (.aload_n 0, 1) by decide +kernel) rfl rfl ?_
    refine x_getR (pc := 76) f7_55 rfl rfl (show decode mX7_pairs.2.1 76 = .ok (.getfield 55, 3) by decide +kernel) ?_
    refine x_getI (pc := 79) (ki := 3) f7_267 rfl rfl (by decide) rfl (show decode mX7_pairs.2.1 79 = .ok (.getfield 267, 3) by decide +kernel) ?_
    exact x_iret (pc := 82) rfl (show decode mX7_pairs.2.1 82 = .ok (.ireturn, 1) by decide +kernel) ⟨_, rfl, hR⟩
  · replace hR := hR.2.2.2 hc
    refine x_tswOut (pc := 12) (tgt := 83) (show decode mX7_pairs.2.1 12 = .ok (.tableswitch 71 0 2 #[28, 55, 63], 28) by decide +kernel) hg hc (by decide) ?_
    refine x_iconst (pc := 83) (n := (-1)) (show decode mX7_pairs.2.1 83 = .ok (.iconst (-1), 1) by decide +kernel) ?_
    exact x_iret (pc := 84) rfl (show decode mX7_pairs.2.1 84 = .ok (.ireturn, 1) by decide +kernel) ⟨_, rfl, hR⟩
set_option maxRecDepth 4000 in
theorem sg_X7_hang_0 {d : Nat} {x1 x2 : Int} {h : xH} {Q : Int → xH → Prop} (hd : 1 ≤ d)
    (hR : cV wdC (d - 1) mX1_join [.inr (.inr 39), .inr (.inr 1)] h (fun h1 => (inI x1) ∧ (x1 < 0 → Q (-1) h1) ∧ (0 ≤ x1 → (inI x1 ∧ inI (h1 39 0)) ∧ ((h1 39 0) ≤ x1 → Q (-1) h1) ∧ (x1 < (h1 39 0) → (inI x2) ∧ (x2 < 0 → Q (-1) h1) ∧ (0 ≤ x2 → (inI x2) ∧ (x2 ≤ 1 → (inI x2) ∧ (¬ x2 = 0 → (0 ≤ x1 ∧ x1 < 10) ∧ (inI (h1 42 x1)) ∧ (0 ≤ (h1 42 x1) → (0 ≤ (h1 42 x1) ∧ (h1 42 x1) < 10) ∧ cI wdC (d - 1) mX7_slotAndRow [.inl (h1 41 (h1 42 x1))] h1 (fun r3 h2 => Q r3 h2)) ∧ ((h1 42 x1) < 0 → Q (-5) h1)) ∧ (x2 = 0 → (0 ≤ x1 ∧ x1 < 10) ∧ cI wdC (d - 1) mX7_slotAndRow [.inl (h1 40 x1)] h1 (fun r5 h4 => Q r5 h4))) ∧ (1 < x2 → Q (-1) h1)))))) :
    gI wdC d mX7_hang 0 [some (.inr (.inr 0)), some (.inl x1), some (.inl x2), none] h Q := by
  unfold gI
  refine x_aload_n (pc := 0) (show decode mX7_hang.2.1 0 = .ok (.aload_n 0, 1) by decide +kernel) rfl rfl ?_
  refine x_getR (pc := 1) f7_55 rfl rfl (show decode mX7_hang.2.1 1 = .ok (.getfield 55, 3) by decide +kernel) ?_
  refine x_aload_n (pc := 4) (show decode mX7_hang.2.1 4 = .ok (.aload_n 0, 1) by decide +kernel) rfl rfl ?_
  refine x_getR (pc := 5) f7_12 rfl rfl (show decode mX7_hang.2.1 5 = .ok (.getfield 12, 3) by decide +kernel) ?_
  refine x_callV (pc := 8) (As := [.inr (.inr 1)]) (rest := []) (lk7_250 rfl) im_X1_join sl_X1_join rfl rfl rfl (Nat.le_of_ble_eq_true rfl) (Nat.le_of_ble_eq_true rfl) (show decode mX7_hang.2.1 8 = .ok (.invokevirtual 250, 3) by decide +kernel) hd hR (fun r9 h1 hq => ?_)
  obtain ⟨rfl, hR⟩ := hq
  show xG _ _ _ 11 _ [] _ _
  refine x_iload_n (pc := 11) (show decode mX7_hang.2.1 11 = .ok (.iload_n 1, 1) by decide +kernel) rfl rfl ?_
  obtain ⟨hg, hR⟩ := hR
  refine x_if_lt (pc := 12) (tgt := 35) (show decode mX7_hang.2.1 12 = .ok (.ifCond .lt 23, 3) by decide +kernel) (by decide) hg (fun hc => ?_) (fun hc => ?_)
  · replace hR := hR.1 hc
    refine x_iconst (pc := 35) (n := (-1)) (show decode mX7_hang.2.1 35 = .ok (.iconst (-1), 1) by decide +kernel) ?_
    exact x_iret (pc := 36) rfl (show decode mX7_hang.2.1 36 = .ok (.ireturn, 1) by decide +kernel) ⟨_, rfl, hR⟩
  · replace hR := hR.2 hc
    refine x_iload_n (pc := 15) (show decode mX7_hang.2.1 15 = .ok (.iload_n 1, 1) by decide +kernel) rfl rfl ?_
    refine x_aload_n (pc := 16) (show decode mX7_hang.2.1 16 = .ok (.aload_n 0, 1) by decide +kernel) rfl rfl ?_
    refine x_getR (pc := 17) f7_55 rfl rfl (show decode mX7_hang.2.1 17 = .ok (.getfield 55, 3) by decide +kernel) ?_
    refine x_getI (pc := 20) (ki := 0) f7_261 rfl rfl (by decide) rfl (show decode mX7_hang.2.1 20 = .ok (.getfield 261, 3) by decide +kernel) ?_
    obtain ⟨hg, hR⟩ := hR
    refine x_icmp_ge (pc := 23) (tgt := 35) (show decode mX7_hang.2.1 23 = .ok (.if_icmp .ge 12, 3) by decide +kernel) (by decide) ⟨hg.1, hg.2⟩ (fun hc => ?_) (fun hc => ?_)
    · replace hR := hR.1 hc
      refine x_iconst (pc := 35) (n := (-1)) (show decode mX7_hang.2.1 35 = .ok (.iconst (-1), 1) by decide +kernel) ?_
      exact x_iret (pc := 36) rfl (show decode mX7_hang.2.1 36 = .ok (.ireturn, 1) by decide +kernel) ⟨_, rfl, hR⟩
    · replace hR := hR.2 hc
      refine x_iload_n (pc := 26) (show decode mX7_hang.2.1 26 = .ok (.iload_n 2, 1) by decide +kernel) rfl rfl ?_
      obtain ⟨hg, hR⟩ := hR
      refine x_if_lt (pc := 27) (tgt := 35) (show decode mX7_hang.2.1 27 = .ok (.ifCond .lt 8, 3) by decide +kernel) (by decide) hg (fun hc => ?_) (fun hc => ?_)
      · replace hR := hR.1 hc
        refine x_iconst (pc := 35) (n := (-1)) (show decode mX7_hang.2.1 35 = .ok (.iconst (-1), 1) by decide +kernel) ?_
        exact x_iret (pc := 36) rfl (show decode mX7_hang.2.1 36 = .ok (.ireturn, 1) by decide +kernel) ⟨_, rfl, hR⟩
      · replace hR := hR.2 hc
        refine x_iload_n (pc := 30) (show decode mX7_hang.2.1 30 = .ok (.iload_n 2, 1) by decide +kernel) rfl rfl ?_
        refine x_iconst (pc := 31) (n := 1) (show decode mX7_hang.2.1 31 = .ok (.iconst 1, 1) by decide +kernel) ?_
        obtain ⟨hg, hR⟩ := hR
        refine x_icmp_le (pc := 32) (tgt := 37) (show decode mX7_hang.2.1 32 = .ok (.if_icmp .le 5, 3) by decide +kernel) (by decide) ⟨hg, (by unfold inI; decide)⟩ (fun hc => ?_) (fun hc => ?_)
        · replace hR := hR.1 hc
          refine x_iload_n (pc := 37) (show decode mX7_hang.2.1 37 = .ok (.iload_n 2, 1) by decide +kernel) rfl rfl ?_
          obtain ⟨hg, hR⟩ := hR
          refine x_if_ne (pc := 38) (tgt := 54) (show decode mX7_hang.2.1 38 = .ok (.ifCond .ne 16, 3) by decide +kernel) (by decide) hg (fun hc => ?_) (fun hc => ?_)
          · replace hR := hR.1 hc
            refine x_aload_n (pc := 54) (show decode mX7_hang.2.1 54 = .ok (.aload_n 0, 1) by decide +kernel) rfl rfl ?_
            refine x_getR (pc := 55) f7_55 rfl rfl (show decode mX7_hang.2.1 55 = .ok (.getfield 55, 3) by decide +kernel) ?_
            refine x_getR (pc := 58) f7_276 rfl rfl (show decode mX7_hang.2.1 58 = .ok (.getfield 276, 3) by decide +kernel) ?_
            refine x_iload_n (pc := 61) (show decode mX7_hang.2.1 61 = .ok (.iload_n 1, 1) by decide +kernel) rfl rfl ?_
            obtain ⟨hg, hR⟩ := hR
            refine x_iald (pc := 62) rfl (by decide) hg (show decode mX7_hang.2.1 62 = .ok (.iaload, 1) by decide +kernel) ?_
            refine x_istore_n (pc := 63) (ls' := [some (.inr (.inr 0)), some (.inl x1), some (.inl x2), some (.inl (h1 42 x1))]) (show decode mX7_hang.2.1 63 = .ok (.istore_n 3, 1) by decide +kernel) rfl (by decide) rfl ?_
            refine x_iload_n (pc := 64) (show decode mX7_hang.2.1 64 = .ok (.iload_n 3, 1) by decide +kernel) rfl rfl ?_
            obtain ⟨hg, hR⟩ := hR
            refine x_if_ge (pc := 65) (tgt := 73) (show decode mX7_hang.2.1 65 = .ok (.ifCond .ge 8, 3) by decide +kernel) (by decide) hg (fun hc => ?_) (fun hc => ?_)
            · replace hR := hR.1 hc
              refine x_aload_n (pc := 73) (show decode mX7_hang.2.1 73 = .ok (.aload_n 0, 1) by decide +kernel) rfl rfl ?_
              refine x_getR (pc := 74) f7_55 rfl rfl (show decode mX7_hang.2.1 74 = .ok (.getfield 55, 3) by decide +kernel) ?_
              refine x_getR (pc := 77) f7_279 rfl rfl (show decode mX7_hang.2.1 77 = .ok (.getfield 279, 3) by decide +kernel) ?_
              refine x_iload_n (pc := 80) (show decode mX7_hang.2.1 80 = .ok (.iload_n 3, 1) by decide +kernel) rfl rfl ?_
              obtain ⟨hg, hR⟩ := hR
              refine x_iald (pc := 81) rfl (by decide) hg (show decode mX7_hang.2.1 81 = .ok (.iaload, 1) by decide +kernel) ?_
              refine x_callS (pc := 82) (As := [.inl (h1 41 (h1 42 x1))]) (rest := []) (lk7_273 rfl) sm_X7_slotAndRow (Nat.le_of_ble_eq_true rfl) (Nat.le_of_ble_eq_true rfl) (show decode mX7_hang.2.1 82 = .ok (.invokestatic 273, 3) by decide +kernel) hd hR (fun r9 h2 hq => ?_)
              obtain ⟨r3, rfl, hR⟩ := hq
              show xG _ _ _ 85 _ [.inl r3] _ _
              exact x_iret (pc := 85) rfl (show decode mX7_hang.2.1 85 = .ok (.ireturn, 1) by decide +kernel) ⟨_, rfl, hR⟩
            · replace hR := hR.2 hc
              refine x_bipush (pc := 68) (n := (-5)) (show decode mX7_hang.2.1 68 = .ok (.bipush (-5), 2) by decide +kernel) rfl ?_
              refine x_goto (pc := 70) (tgt := 85) (show decode mX7_hang.2.1 70 = .ok (.goto 15, 3) by decide +kernel) (by decide) ?_
              exact x_iret (pc := 85) rfl (show decode mX7_hang.2.1 85 = .ok (.ireturn, 1) by decide +kernel) ⟨_, rfl, hR⟩
          · replace hR := hR.2 hc
            refine x_aload_n (pc := 41) (show decode mX7_hang.2.1 41 = .ok (.aload_n 0, 1) by decide +kernel) rfl rfl ?_
            refine x_getR (pc := 42) f7_55 rfl rfl (show decode mX7_hang.2.1 42 = .ok (.getfield 55, 3) by decide +kernel) ?_
            refine x_getR (pc := 45) f7_270 rfl rfl (show decode mX7_hang.2.1 45 = .ok (.getfield 270, 3) by decide +kernel) ?_
            refine x_iload_n (pc := 48) (show decode mX7_hang.2.1 48 = .ok (.iload_n 1, 1) by decide +kernel) rfl rfl ?_
            obtain ⟨hg, hR⟩ := hR
            refine x_iald (pc := 49) rfl (by decide) hg (show decode mX7_hang.2.1 49 = .ok (.iaload, 1) by decide +kernel) ?_
            refine x_callS (pc := 50) (As := [.inl (h1 40 x1)]) (rest := []) (lk7_273 rfl) sm_X7_slotAndRow (Nat.le_of_ble_eq_true rfl) (Nat.le_of_ble_eq_true rfl) (show decode mX7_hang.2.1 50 = .ok (.invokestatic 273, 3) by decide +kernel) hd hR (fun r9 h4 hq => ?_)
            obtain ⟨r5, rfl, hR⟩ := hq
            show xG _ _ _ 53 _ [.inl r5] _ _
            exact x_iret (pc := 53) rfl (show decode mX7_hang.2.1 53 = .ok (.ireturn, 1) by decide +kernel) ⟨_, rfl, hR⟩
        · replace hR := hR.2 hc
          refine x_iconst (pc := 35) (n := (-1)) (show decode mX7_hang.2.1 35 = .ok (.iconst (-1), 1) by decide +kernel) ?_
          exact x_iret (pc := 36) rfl (show decode mX7_hang.2.1 36 = .ok (.ireturn, 1) by decide +kernel) ⟨_, rfl, hR⟩
set_option maxRecDepth 4000 in
theorem sg_X7_draft_0 {d : Nat} {x1 : Int} {h : xH} {Q : Int → xH → Prop} (hd : 1 ≤ d)
    (hR : cB wdC (d - 1) mX7_isRow [.inl x1] h (fun h1 => gI wdC d mX7_draft 12 [some (.inr (.inr 0)), some (.inl x1), some (.inl 0)] h1 Q) (fun h1 => Q (-2) h1)) :
    gI wdC d mX7_draft 0 [some (.inr (.inr 0)), some (.inl x1), none] h Q := by
  unfold gI
  refine x_iload_n (pc := 0) (show decode mX7_draft.2.1 0 = .ok (.iload_n 1, 1) by decide +kernel) rfl rfl ?_
  refine x_callS (pc := 1) (As := [.inl x1]) (rest := []) (lk7_89 rfl) sm_X7_isRow (Nat.le_of_ble_eq_true rfl) (Nat.le_of_ble_eq_true rfl) (show decode mX7_draft.2.1 1 = .ok (.invokestatic 89, 3) by decide +kernel) hd hR (fun r9 h1 hq => ?_)
  obtain ⟨r8, rfl, hq⟩ := hq
  rcases hq with ⟨rfl, hR⟩ | ⟨rfl, hR⟩
  · show xG _ _ _ 4 _ [.inl 1] _ _
    refine x_if_ne (pc := 4) (tgt := 10) (show decode mX7_draft.2.1 4 = .ok (.ifCond .ne 6, 3) by decide +kernel) (by decide) (by unfold inI; decide) (fun _ => ?_) (fun hc => absurd hc (by decide))
    refine x_iconst (pc := 10) (n := 0) (show decode mX7_draft.2.1 10 = .ok (.iconst 0, 1) by decide +kernel) ?_
    refine x_istore_n (pc := 11) (ls' := [some (.inr (.inr 0)), some (.inl x1), some (.inl 0)]) (show decode mX7_draft.2.1 11 = .ok (.istore_n 2, 1) by decide +kernel) rfl (by decide) rfl ?_
    exact hR
  · show xG _ _ _ 4 _ [.inl 0] _ _
    refine x_if_ne (pc := 4) (tgt := 10) (show decode mX7_draft.2.1 4 = .ok (.ifCond .ne 6, 3) by decide +kernel) (by decide) (by unfold inI; decide) (fun hc => absurd hc (by decide)) (fun _ => ?_)
    refine x_bipush (pc := 7) (n := (-2)) (show decode mX7_draft.2.1 7 = .ok (.bipush (-2), 2) by decide +kernel) rfl ?_
    exact x_iret (pc := 9) rfl (show decode mX7_draft.2.1 9 = .ok (.ireturn, 1) by decide +kernel) ⟨_, rfl, hR⟩
set_option maxRecDepth 4000 in
theorem sg_X7_draft_12 {d : Nat} {x1 x2 : Int} {h : xH} {Q : Int → xH → Prop}
    (hR : (inI x2 ∧ inI (h 1 0)) ∧ ((h 1 0) ≤ x2 → gI wdC d mX7_draft 39 [some (.inr (.inr 0)), some (.inl x1), some (.inl 0)] h Q) ∧ (x2 < (h 1 0) → (0 ≤ x2 ∧ x2 < 12) ∧ gI wdC d mX7_draft 12 [some (.inr (.inr 0)), some (.inl x1), some (.inl (x2 + 1))] (xu h 53 x2 124) Q)) :
    gI wdC d mX7_draft 12 [some (.inr (.inr 0)), some (.inl x1), some (.inl x2)] h Q := by
  unfold gI
  refine x_iload_n (pc := 12) (show decode mX7_draft.2.1 12 = .ok (.iload_n 2, 1) by decide +kernel) rfl rfl ?_
  refine x_aload_n (pc := 13) (show decode mX7_draft.2.1 13 = .ok (.aload_n 0, 1) by decide +kernel) rfl rfl ?_
  refine x_getR (pc := 14) f7_12 rfl rfl (show decode mX7_draft.2.1 14 = .ok (.getfield 12, 3) by decide +kernel) ?_
  refine x_getI (pc := 17) (ki := 0) f7_86 rfl rfl (by decide) rfl (show decode mX7_draft.2.1 17 = .ok (.getfield 86, 3) by decide +kernel) ?_
  obtain ⟨hg, hR⟩ := hR
  refine x_icmp_ge (pc := 20) (tgt := 37) (show decode mX7_draft.2.1 20 = .ok (.if_icmp .ge 17, 3) by decide +kernel) (by decide) ⟨hg.1, hg.2⟩ (fun hc => ?_) (fun hc => ?_)
  · replace hR := hR.1 hc
    refine x_iconst (pc := 37) (n := 0) (show decode mX7_draft.2.1 37 = .ok (.iconst 0, 1) by decide +kernel) ?_
    refine x_istore_n (pc := 38) (ls' := [some (.inr (.inr 0)), some (.inl x1), some (.inl 0)]) (show decode mX7_draft.2.1 38 = .ok (.istore_n 2, 1) by decide +kernel) rfl (by decide) rfl ?_
    exact hR
  · replace hR := hR.2 hc
    refine x_aload_n (pc := 23) (show decode mX7_draft.2.1 23 = .ok (.aload_n 0, 1) by decide +kernel) rfl rfl ?_
    refine x_getR (pc := 24) f7_73 rfl rfl (show decode mX7_draft.2.1 24 = .ok (.getfield 73, 3) by decide +kernel) ?_
    refine x_iload_n (pc := 27) (show decode mX7_draft.2.1 27 = .ok (.iload_n 2, 1) by decide +kernel) rfl rfl ?_
    refine x_bipush (pc := 28) (n := 124) (show decode mX7_draft.2.1 28 = .ok (.bipush 124, 2) by decide +kernel) rfl ?_
    obtain ⟨hg, hR⟩ := hR
    refine x_iast (pc := 30) rfl (by decide) hg (show decode mX7_draft.2.1 30 = .ok (.iastore, 1) by decide +kernel) ?_
    refine x_iinc (pc := 31) (ls' := [some (.inr (.inr 0)), some (.inl x1), some (.inl (x2 + 1))]) (show decode mX7_draft.2.1 31 = .ok (.iinc 2 1, 3) by decide +kernel) (by decide) rfl rfl ?_
    refine x_goto (pc := 34) (tgt := 12) (show decode mX7_draft.2.1 34 = .ok (.goto (-22), 3) by decide +kernel) (by decide) ?_
    exact hR
set_option maxRecDepth 4000 in
theorem sg_X7_draft_39 {d : Nat} {x1 x2 : Int} {h : xH} {Q : Int → xH → Prop} (hd : 1 ≤ d)
    (hR : (inI x2 ∧ inI (h 1 2)) ∧ ((h 1 2) ≤ x2 → gI wdC d mX7_draft 84 [some (.inr (.inr 0)), some (.inl x1), some (.inl 0)] h Q) ∧ (x2 < (h 1 2) → (0 ≤ x2 ∧ x2 < 30) ∧ (inI (h 2 x2) ∧ inI x1) ∧ (¬ (h 2 x2) = x1 → gI wdC d mX7_draft 39 [some (.inr (.inr 0)), some (.inl x1), some (.inl (x2 + 1))] h Q) ∧ ((h 2 x2) = x1 → (0 ≤ x2 ∧ x2 < 30) ∧ cV wdC (d - 1) mX7_drawPin [.inr (.inr 0), .inl (h 3 x2)] h (fun h1 => gI wdC d mX7_draft 39 [some (.inr (.inr 0)), some (.inl x1), some (.inl (x2 + 1))] h1 Q)))) :
    gI wdC d mX7_draft 39 [some (.inr (.inr 0)), some (.inl x1), some (.inl x2)] h Q := by
  unfold gI
  refine x_iload_n (pc := 39) (show decode mX7_draft.2.1 39 = .ok (.iload_n 2, 1) by decide +kernel) rfl rfl ?_
  refine x_aload_n (pc := 40) (show decode mX7_draft.2.1 40 = .ok (.aload_n 0, 1) by decide +kernel) rfl rfl ?_
  refine x_getR (pc := 41) f7_12 rfl rfl (show decode mX7_draft.2.1 41 = .ok (.getfield 12, 3) by decide +kernel) ?_
  refine x_getI (pc := 44) (ki := 2) f7_107 rfl rfl (by decide) rfl (show decode mX7_draft.2.1 44 = .ok (.getfield 107, 3) by decide +kernel) ?_
  obtain ⟨hg, hR⟩ := hR
  refine x_icmp_ge (pc := 47) (tgt := 82) (show decode mX7_draft.2.1 47 = .ok (.if_icmp .ge 35, 3) by decide +kernel) (by decide) ⟨hg.1, hg.2⟩ (fun hc => ?_) (fun hc => ?_)
  · replace hR := hR.1 hc
    refine x_iconst (pc := 82) (n := 0) (show decode mX7_draft.2.1 82 = .ok (.iconst 0, 1) by decide +kernel) ?_
    refine x_istore_n (pc := 83) (ls' := [some (.inr (.inr 0)), some (.inl x1), some (.inl 0)]) (show decode mX7_draft.2.1 83 = .ok (.istore_n 2, 1) by decide +kernel) rfl (by decide) rfl ?_
    exact hR
  · replace hR := hR.2 hc
    refine x_aload_n (pc := 50) (show decode mX7_draft.2.1 50 = .ok (.aload_n 0, 1) by decide +kernel) rfl rfl ?_
    refine x_getR (pc := 51) f7_12 rfl rfl (show decode mX7_draft.2.1 51 = .ok (.getfield 12, 3) by decide +kernel) ?_
    refine x_getR (pc := 54) f7_116 rfl rfl (show decode mX7_draft.2.1 54 = .ok (.getfield 116, 3) by decide +kernel) ?_
    refine x_iload_n (pc := 57) (show decode mX7_draft.2.1 57 = .ok (.iload_n 2, 1) by decide +kernel) rfl rfl ?_
    obtain ⟨hg, hR⟩ := hR
    refine x_iald (pc := 58) rfl (by decide) hg (show decode mX7_draft.2.1 58 = .ok (.iaload, 1) by decide +kernel) ?_
    refine x_iload_n (pc := 59) (show decode mX7_draft.2.1 59 = .ok (.iload_n 1, 1) by decide +kernel) rfl rfl ?_
    obtain ⟨hg, hR⟩ := hR
    refine x_icmp_ne (pc := 60) (tgt := 76) (show decode mX7_draft.2.1 60 = .ok (.if_icmp .ne 16, 3) by decide +kernel) (by decide) ⟨hg.1, hg.2⟩ (fun hc => ?_) (fun hc => ?_)
    · replace hR := hR.1 hc
      refine x_iinc (pc := 76) (ls' := [some (.inr (.inr 0)), some (.inl x1), some (.inl (x2 + 1))]) (show decode mX7_draft.2.1 76 = .ok (.iinc 2 1, 3) by decide +kernel) (by decide) rfl rfl ?_
      refine x_goto (pc := 79) (tgt := 39) (show decode mX7_draft.2.1 79 = .ok (.goto (-40), 3) by decide +kernel) (by decide) ?_
      exact hR
    · replace hR := hR.2 hc
      refine x_aload_n (pc := 63) (show decode mX7_draft.2.1 63 = .ok (.aload_n 0, 1) by decide +kernel) rfl rfl ?_
      refine x_aload_n (pc := 64) (show decode mX7_draft.2.1 64 = .ok (.aload_n 0, 1) by decide +kernel) rfl rfl ?_
      refine x_getR (pc := 65) f7_12 rfl rfl (show decode mX7_draft.2.1 65 = .ok (.getfield 12, 3) by decide +kernel) ?_
      refine x_getR (pc := 68) f7_119 rfl rfl (show decode mX7_draft.2.1 68 = .ok (.getfield 119, 3) by decide +kernel) ?_
      refine x_iload_n (pc := 71) (show decode mX7_draft.2.1 71 = .ok (.iload_n 2, 1) by decide +kernel) rfl rfl ?_
      obtain ⟨hg, hR⟩ := hR
      refine x_iald (pc := 72) rfl (by decide) hg (show decode mX7_draft.2.1 72 = .ok (.iaload, 1) by decide +kernel) ?_
      refine x_callV (pc := 73) (As := [.inl (h 3 x2)]) (rest := []) (lk7_282 rfl) im_X7_drawPin sl_X7_drawPin rfl rfl rfl (Nat.le_of_ble_eq_true rfl) (Nat.le_of_ble_eq_true rfl) (show decode mX7_draft.2.1 73 = .ok (.invokevirtual 282, 3) by decide +kernel) hd hR (fun r9 h1 hq => ?_)
      obtain ⟨rfl, hR⟩ := hq
      show xG _ _ _ 76 _ [] _ _
      refine x_iinc (pc := 76) (ls' := [some (.inr (.inr 0)), some (.inl x1), some (.inl (x2 + 1))]) (show decode mX7_draft.2.1 76 = .ok (.iinc 2 1, 3) by decide +kernel) (by decide) rfl rfl ?_
      refine x_goto (pc := 79) (tgt := 39) (show decode mX7_draft.2.1 79 = .ok (.goto (-40), 3) by decide +kernel) (by decide) ?_
      exact hR
set_option maxRecDepth 4000 in
theorem sg_X7_draft_84 {d : Nat} {x1 x2 : Int} {h : xH} {Q : Int → xH → Prop} (hd : 1 ≤ d)
    (hR : (inI x2 ∧ inI (h 1 0)) ∧ ((h 1 0) ≤ x2 → Q (h 1 0) (xu h 0 12 (h 1 0))) ∧ (x2 < (h 1 0) → cB wdC (d - 1) mX3_isFilled [.inr (.inr 1), .inl x2, .inl x1] h (fun h1 => gI wdC d mX7_draft 84 [some (.inr (.inr 0)), some (.inl x1), some (.inl (x2 + 1))] h1 Q) (fun h1 => (0 ≤ x2 ∧ x2 < 12) ∧ gI wdC d mX7_draft 84 [some (.inr (.inr 0)), some (.inl x1), some (.inl (x2 + 1))] (xu h1 53 x2 46) Q))) :
    gI wdC d mX7_draft 84 [some (.inr (.inr 0)), some (.inl x1), some (.inl x2)] h Q := by
  unfold gI
  refine x_iload_n (pc := 84) (show decode mX7_draft.2.1 84 = .ok (.iload_n 2, 1) by decide +kernel) rfl rfl ?_
  refine x_aload_n (pc := 85) (show decode mX7_draft.2.1 85 = .ok (.aload_n 0, 1) by decide +kernel) rfl rfl ?_
  refine x_getR (pc := 86) f7_12 rfl rfl (show decode mX7_draft.2.1 86 = .ok (.getfield 12, 3) by decide +kernel) ?_
  refine x_getI (pc := 89) (ki := 0) f7_86 rfl rfl (by decide) rfl (show decode mX7_draft.2.1 89 = .ok (.getfield 86, 3) by decide +kernel) ?_
  obtain ⟨hg, hR⟩ := hR
  refine x_icmp_ge (pc := 92) (tgt := 121) (show decode mX7_draft.2.1 92 = .ok (.if_icmp .ge 29, 3) by decide +kernel) (by decide) ⟨hg.1, hg.2⟩ (fun hc => ?_) (fun hc => ?_)
  · replace hR := hR.1 hc
    refine x_aload_n (pc := 121) (show decode mX7_draft.2.1 121 = .ok (.aload_n 0, 1) by decide +kernel) rfl rfl ?_
    refine x_aload_n (pc := 122) (show decode mX7_draft.2.1 122 = .ok (.aload_n 0, 1) by decide +kernel) rfl rfl ?_
    refine x_getR (pc := 123) f7_12 rfl rfl (show decode mX7_draft.2.1 123 = .ok (.getfield 12, 3) by decide +kernel) ?_
    refine x_getI (pc := 126) (ki := 0) f7_86 rfl rfl (by decide) rfl (show decode mX7_draft.2.1 126 = .ok (.getfield 86, 3) by decide +kernel) ?_
    refine x_putI (pc := 129) (ki := 12) f7_77 fp7_12 rfl rfl rfl (show decode mX7_draft.2.1 129 = .ok (.putfield 77, 3) by decide +kernel) ?_
    refine x_aload_n (pc := 132) (show decode mX7_draft.2.1 132 = .ok (.aload_n 0, 1) by decide +kernel) rfl rfl ?_
    refine x_getI (pc := 133) (ki := 12) f7_77 rfl rfl (by decide) rfl (show decode mX7_draft.2.1 133 = .ok (.getfield 77, 3) by decide +kernel) ?_
    exact x_iret (pc := 136) rfl (show decode mX7_draft.2.1 136 = .ok (.ireturn, 1) by decide +kernel) ⟨_, rfl, hR⟩
  · replace hR := hR.2 hc
    refine x_aload_n (pc := 95) (show decode mX7_draft.2.1 95 = .ok (.aload_n 0, 1) by decide +kernel) rfl rfl ?_
    refine x_getR (pc := 96) f7_12 rfl rfl (show decode mX7_draft.2.1 96 = .ok (.getfield 12, 3) by decide +kernel) ?_
    refine x_iload_n (pc := 99) (show decode mX7_draft.2.1 99 = .ok (.iload_n 2, 1) by decide +kernel) rfl rfl ?_
    refine x_iload_n (pc := 100) (show decode mX7_draft.2.1 100 = .ok (.iload_n 1, 1) by decide +kernel) rfl rfl ?_
    refine x_callV (pc := 101) (As := [.inl x2, .inl x1]) (rest := []) (lk7_143 rfl) im_X3_isFilled sl_X3_isFilled rfl rfl rfl (Nat.le_of_ble_eq_true rfl) (Nat.le_of_ble_eq_true rfl) (show decode mX7_draft.2.1 101 = .ok (.invokevirtual 143, 3) by decide +kernel) hd hR (fun r9 h1 hq => ?_)
    obtain ⟨r8, rfl, hq⟩ := hq
    rcases hq with ⟨rfl, hR⟩ | ⟨rfl, hR⟩
    · show xG _ _ _ 104 _ [.inl 1] _ _
      refine x_if_ne (pc := 104) (tgt := 115) (show decode mX7_draft.2.1 104 = .ok (.ifCond .ne 11, 3) by decide +kernel) (by decide) (by unfold inI; decide) (fun _ => ?_) (fun hc => absurd hc (by decide))
      refine x_iinc (pc := 115) (ls' := [some (.inr (.inr 0)), some (.inl x1), some (.inl (x2 + 1))]) (show decode mX7_draft.2.1 115 = .ok (.iinc 2 1, 3) by decide +kernel) (by decide) rfl rfl ?_
      refine x_goto (pc := 118) (tgt := 84) (show decode mX7_draft.2.1 118 = .ok (.goto (-34), 3) by decide +kernel) (by decide) ?_
      exact hR
    · show xG _ _ _ 104 _ [.inl 0] _ _
      refine x_if_ne (pc := 104) (tgt := 115) (show decode mX7_draft.2.1 104 = .ok (.ifCond .ne 11, 3) by decide +kernel) (by decide) (by unfold inI; decide) (fun hc => absurd hc (by decide)) (fun _ => ?_)
      refine x_aload_n (pc := 107) (show decode mX7_draft.2.1 107 = .ok (.aload_n 0, 1) by decide +kernel) rfl rfl ?_
      refine x_getR (pc := 108) f7_73 rfl rfl (show decode mX7_draft.2.1 108 = .ok (.getfield 73, 3) by decide +kernel) ?_
      refine x_iload_n (pc := 111) (show decode mX7_draft.2.1 111 = .ok (.iload_n 2, 1) by decide +kernel) rfl rfl ?_
      refine x_bipush (pc := 112) (n := 46) (show decode mX7_draft.2.1 112 = .ok (.bipush 46, 2) by decide +kernel) rfl ?_
      obtain ⟨hg, hR⟩ := hR
      refine x_iast (pc := 114) rfl (by decide) hg (show decode mX7_draft.2.1 114 = .ok (.iastore, 1) by decide +kernel) ?_
      refine x_iinc (pc := 115) (ls' := [some (.inr (.inr 0)), some (.inl x1), some (.inl (x2 + 1))]) (show decode mX7_draft.2.1 115 = .ok (.iinc 2 1, 3) by decide +kernel) (by decide) rfl rfl ?_
      refine x_goto (pc := 118) (tgt := 84) (show decode mX7_draft.2.1 118 = .ok (.goto (-34), 3) by decide +kernel) (by decide) ?_
      exact hR
set_option maxRecDepth 4000 in
theorem sg_X7_paper_0 {d : Nat} {x1 : Int} {h : xH} {Q : Int → xH → Prop}
    (hR : (inI x1) ∧ (x1 < 0 → Q (-1) h) ∧ (0 ≤ x1 → (inI x1 ∧ inI (h 0 12)) ∧ (x1 < (h 0 12) → (0 ≤ x1 ∧ x1 < 12) ∧ Q (h 53 x1) h) ∧ ((h 0 12) ≤ x1 → Q (-1) h))) :
    gI wdC d mX7_paper 0 [some (.inr (.inr 0)), some (.inl x1)] h Q := by
  unfold gI
  refine x_iload_n (pc := 0) (show decode mX7_paper.2.1 0 = .ok (.iload_n 1, 1) by decide +kernel) rfl rfl ?_
  obtain ⟨hg, hR⟩ := hR
  refine x_if_lt (pc := 1) (tgt := 12) (show decode mX7_paper.2.1 1 = .ok (.ifCond .lt 11, 3) by decide +kernel) (by decide) hg (fun hc => ?_) (fun hc => ?_)
  · replace hR := hR.1 hc
    refine x_iconst (pc := 12) (n := (-1)) (show decode mX7_paper.2.1 12 = .ok (.iconst (-1), 1) by decide +kernel) ?_
    refine x_goto (pc := 13) (tgt := 22) (show decode mX7_paper.2.1 13 = .ok (.goto 9, 3) by decide +kernel) (by decide) ?_
    exact x_iret (pc := 22) rfl (show decode mX7_paper.2.1 22 = .ok (.ireturn, 1) by decide +kernel) ⟨_, rfl, hR⟩
  · replace hR := hR.2 hc
    refine x_iload_n (pc := 4) (show decode mX7_paper.2.1 4 = .ok (.iload_n 1, 1) by decide +kernel) rfl rfl ?_
    refine x_aload_n (pc := 5) (show decode mX7_paper.2.1 5 = .ok (.aload_n 0, 1) by decide +kernel) rfl rfl ?_
    refine x_getI (pc := 6) (ki := 12) f7_77 rfl rfl (by decide) rfl (show decode mX7_paper.2.1 6 = .ok (.getfield 77, 3) by decide +kernel) ?_
    obtain ⟨hg, hR⟩ := hR
    refine x_icmp_lt (pc := 9) (tgt := 16) (show decode mX7_paper.2.1 9 = .ok (.if_icmp .lt 7, 3) by decide +kernel) (by decide) ⟨hg.1, hg.2⟩ (fun hc => ?_) (fun hc => ?_)
    · replace hR := hR.1 hc
      refine x_aload_n (pc := 16) (show decode mX7_paper.2.1 16 = .ok (.aload_n 0, 1) by decide +kernel) rfl rfl ?_
      refine x_getR (pc := 17) f7_73 rfl rfl (show decode mX7_paper.2.1 17 = .ok (.getfield 73, 3) by decide +kernel) ?_
      refine x_iload_n (pc := 20) (show decode mX7_paper.2.1 20 = .ok (.iload_n 1, 1) by decide +kernel) rfl rfl ?_
      obtain ⟨hg, hR⟩ := hR
      refine x_iald (pc := 21) rfl (by decide) hg (show decode mX7_paper.2.1 21 = .ok (.iaload, 1) by decide +kernel) ?_
      exact x_iret (pc := 22) rfl (show decode mX7_paper.2.1 22 = .ok (.ireturn, 1) by decide +kernel) ⟨_, rfl, hR⟩
    · replace hR := hR.2 hc
      refine x_iconst (pc := 12) (n := (-1)) (show decode mX7_paper.2.1 12 = .ok (.iconst (-1), 1) by decide +kernel) ?_
      refine x_goto (pc := 13) (tgt := 22) (show decode mX7_paper.2.1 13 = .ok (.goto 9, 3) by decide +kernel) (by decide) ?_
      exact x_iret (pc := 22) rfl (show decode mX7_paper.2.1 22 = .ok (.ireturn, 1) by decide +kernel) ⟨_, rfl, hR⟩
set_option maxRecDepth 4000 in
theorem sg_X7_lay_0 {d : Nat} {x1 x2 : Int} {h : xH} {Q : Int → xH → Prop} (hd : 1 ≤ d)
    (hR : cB wdC (d - 1) mX4_isList [.inr (.inr 50), .inl x1] h (fun h1 => cB wdC (d - 1) mX4_holds [.inr (.inr 50), .inl x1] h1 (fun h2 => (inI x2) ∧ (0 ≤ x2 → gI wdC d mX7_lay 47 [some (.inr (.inr 0)), some (.inl x1), some (.inl x2), some (.inl (2 * (h2 1 0))), some (.inl 0)] h2 Q) ∧ (x2 < 0 → Q (-13) h2)) (fun h2 => Q (-11) h2)) (fun h1 => Q (-1) h1)) :
    gI wdC d mX7_lay 0 [some (.inr (.inr 0)), some (.inl x1), some (.inl x2), none, none] h Q := by
  unfold gI
  refine x_aload_n (pc := 0) (show decode mX7_lay.2.1 0 = .ok (.aload_n 0, 1) by decide +kernel) rfl rfl ?_
  refine x_getR (pc := 1) f7_69 rfl rfl (show decode mX7_lay.2.1 1 = .ok (.getfield 69, 3) by decide +kernel) ?_
  refine x_iload_n (pc := 4) (show decode mX7_lay.2.1 4 = .ok (.iload_n 1, 1) by decide +kernel) rfl rfl ?_
  refine x_callV (pc := 5) (As := [.inl x1]) (rest := []) (lk7_285 rfl) im_X4_isList sl_X4_isList rfl rfl rfl (Nat.le_of_ble_eq_true rfl) (Nat.le_of_ble_eq_true rfl) (show decode mX7_lay.2.1 5 = .ok (.invokevirtual 285, 3) by decide +kernel) hd hR (fun r9 h1 hq => ?_)
  obtain ⟨r8, rfl, hq⟩ := hq
  rcases hq with ⟨rfl, hR⟩ | ⟨rfl, hR⟩
  · show xG _ _ _ 8 _ [.inl 1] _ _
    refine x_if_ne (pc := 8) (tgt := 13) (show decode mX7_lay.2.1 8 = .ok (.ifCond .ne 5, 3) by decide +kernel) (by decide) (by unfold inI; decide) (fun _ => ?_) (fun hc => absurd hc (by decide))
    refine x_aload_n (pc := 13) (show decode mX7_lay.2.1 13 = .ok (.aload_n 0, 1) by decide +kernel) rfl rfl ?_
    refine x_getR (pc := 14) f7_69 rfl rfl (show decode mX7_lay.2.1 14 = .ok (.getfield 69, 3) by decide +kernel) ?_
    refine x_iload_n (pc := 17) (show decode mX7_lay.2.1 17 = .ok (.iload_n 1, 1) by decide +kernel) rfl rfl ?_
    refine x_callV (pc := 18) (As := [.inl x1]) (rest := []) (lk7_288 rfl) im_X4_holds sl_X4_holds rfl rfl rfl (Nat.le_of_ble_eq_true rfl) (Nat.le_of_ble_eq_true rfl) (show decode mX7_lay.2.1 18 = .ok (.invokevirtual 288, 3) by decide +kernel) hd hR (fun r9 h2 hq => ?_)
    obtain ⟨r8, rfl, hq⟩ := hq
    rcases hq with ⟨rfl, hR⟩ | ⟨rfl, hR⟩
    · show xG _ _ _ 21 _ [.inl 1] _ _
      refine x_if_ne (pc := 21) (tgt := 27) (show decode mX7_lay.2.1 21 = .ok (.ifCond .ne 6, 3) by decide +kernel) (by decide) (by unfold inI; decide) (fun _ => ?_) (fun hc => absurd hc (by decide))
      refine x_iconst (pc := 27) (n := 2) (show decode mX7_lay.2.1 27 = .ok (.iconst 2, 1) by decide +kernel) ?_
      refine x_aload_n (pc := 28) (show decode mX7_lay.2.1 28 = .ok (.aload_n 0, 1) by decide +kernel) rfl rfl ?_
      refine x_getR (pc := 29) f7_12 rfl rfl (show decode mX7_lay.2.1 29 = .ok (.getfield 12, 3) by decide +kernel) ?_
      refine x_getI (pc := 32) (ki := 0) f7_86 rfl rfl (by decide) rfl (show decode mX7_lay.2.1 32 = .ok (.getfield 86, 3) by decide +kernel) ?_
      refine x_imul (pc := 35) (show decode mX7_lay.2.1 35 = .ok (.imul, 1) by decide +kernel) ?_
      refine x_istore_n (pc := 36) (ls' := [some (.inr (.inr 0)), some (.inl x1), some (.inl x2), some (.inl (2 * (h2 1 0))), none]) (show decode mX7_lay.2.1 36 = .ok (.istore_n 3, 1) by decide +kernel) rfl (by decide) rfl ?_
      refine x_iload_n (pc := 37) (show decode mX7_lay.2.1 37 = .ok (.iload_n 2, 1) by decide +kernel) rfl rfl ?_
      obtain ⟨hg, hR⟩ := hR
      refine x_if_ge (pc := 38) (tgt := 44) (show decode mX7_lay.2.1 38 = .ok (.ifCond .ge 6, 3) by decide +kernel) (by decide) hg (fun hc => ?_) (fun hc => ?_)
      · replace hR := hR.1 hc
        refine x_iconst (pc := 44) (n := 0) (show decode mX7_lay.2.1 44 = .ok (.iconst 0, 1) by decide +kernel) ?_
        refine x_istore (pc := 45) (ls' := [some (.inr (.inr 0)), some (.inl x1), some (.inl x2), some (.inl (2 * (h2 1 0))), some (.inl 0)]) (show decode mX7_lay.2.1 45 = .ok (.istore 4, 2) by decide +kernel) (by decide) rfl ?_
        exact hR
      · replace hR := hR.2 hc
        refine x_bipush (pc := 41) (n := (-13)) (show decode mX7_lay.2.1 41 = .ok (.bipush (-13), 2) by decide +kernel) rfl ?_
        exact x_iret (pc := 43) rfl (show decode mX7_lay.2.1 43 = .ok (.ireturn, 1) by decide +kernel) ⟨_, rfl, hR⟩
    · show xG _ _ _ 21 _ [.inl 0] _ _
      refine x_if_ne (pc := 21) (tgt := 27) (show decode mX7_lay.2.1 21 = .ok (.ifCond .ne 6, 3) by decide +kernel) (by decide) (by unfold inI; decide) (fun hc => absurd hc (by decide)) (fun _ => ?_)
      refine x_bipush (pc := 24) (n := (-11)) (show decode mX7_lay.2.1 24 = .ok (.bipush (-11), 2) by decide +kernel) rfl ?_
      exact x_iret (pc := 26) rfl (show decode mX7_lay.2.1 26 = .ok (.ireturn, 1) by decide +kernel) ⟨_, rfl, hR⟩
  · show xG _ _ _ 8 _ [.inl 0] _ _
    refine x_if_ne (pc := 8) (tgt := 13) (show decode mX7_lay.2.1 8 = .ok (.ifCond .ne 5, 3) by decide +kernel) (by decide) (by unfold inI; decide) (fun hc => absurd hc (by decide)) (fun _ => ?_)
    refine x_iconst (pc := 11) (n := (-1)) (show decode mX7_lay.2.1 11 = .ok (.iconst (-1), 1) by decide +kernel) ?_
    exact x_iret (pc := 12) rfl (show decode mX7_lay.2.1 12 = .ok (.ireturn, 1) by decide +kernel) ⟨_, rfl, hR⟩
set_option maxRecDepth 4000 in
theorem sg_X7_lay_47 {d : Nat} {x1 x2 x3 x4 : Int} {h : xH} {Q : Int → xH → Prop} (hd : 1 ≤ d)
    (hR : (inI x4 ∧ inI x3) ∧ (x3 ≤ x4 → Q x3 h) ∧ (x4 < x3 → (0 ≤ x1 ∧ x1 < 4) ∧ (inI x4 ∧ inI ((h 51 x1) - x2)) ∧ (x4 < ((h 51 x1) - x2) → (0 ≤ x4 ∧ x4 < 24) ∧ inI (h 7 x4) ∧ cV wdC (d - 1) mX4_put [.inr (.inr 50), .inl x1, .inl (x2 + x4), .inr (.inl (h 7 x4))] h (fun h1 => gI wdC d mX7_lay 47 [some (.inr (.inr 0)), some (.inl x1), some (.inl x2), some (.inl x3), some (.inl (x4 + 1))] h1 Q)) ∧ (((h 51 x1) - x2) ≤ x4 → Q (-13) h))) :
    gI wdC d mX7_lay 47 [some (.inr (.inr 0)), some (.inl x1), some (.inl x2), some (.inl x3), some (.inl x4)] h Q := by
  unfold gI
  refine x_iload (pc := 47) (show decode mX7_lay.2.1 47 = .ok (.iload 4, 2) by decide +kernel) rfl ?_
  refine x_iload_n (pc := 49) (show decode mX7_lay.2.1 49 = .ok (.iload_n 3, 1) by decide +kernel) rfl rfl ?_
  obtain ⟨hg, hR⟩ := hR
  refine x_icmp_ge (pc := 50) (tgt := 101) (show decode mX7_lay.2.1 50 = .ok (.if_icmp .ge 51, 3) by decide +kernel) (by decide) ⟨hg.1, hg.2⟩ (fun hc => ?_) (fun hc => ?_)
  · replace hR := hR.1 hc
    refine x_iload_n (pc := 101) (show decode mX7_lay.2.1 101 = .ok (.iload_n 3, 1) by decide +kernel) rfl rfl ?_
    exact x_iret (pc := 102) rfl (show decode mX7_lay.2.1 102 = .ok (.ireturn, 1) by decide +kernel) ⟨_, rfl, hR⟩
  · replace hR := hR.2 hc
    refine x_iload (pc := 53) (show decode mX7_lay.2.1 53 = .ok (.iload 4, 2) by decide +kernel) rfl ?_
    refine x_aload_n (pc := 55) (show decode mX7_lay.2.1 55 = .ok (.aload_n 0, 1) by decide +kernel) rfl rfl ?_
    refine x_getR (pc := 56) f7_69 rfl rfl (show decode mX7_lay.2.1 56 = .ok (.getfield 69, 3) by decide +kernel) ?_
    refine x_getR (pc := 59) f7_291 rfl rfl (show decode mX7_lay.2.1 59 = .ok (.getfield 291, 3) by decide +kernel) ?_
    refine x_iload_n (pc := 62) (show decode mX7_lay.2.1 62 = .ok (.iload_n 1, 1) by decide +kernel) rfl rfl ?_
    obtain ⟨hg, hR⟩ := hR
    refine x_iald (pc := 63) rfl (by decide) hg (show decode mX7_lay.2.1 63 = .ok (.iaload, 1) by decide +kernel) ?_
    refine x_iload_n (pc := 64) (show decode mX7_lay.2.1 64 = .ok (.iload_n 2, 1) by decide +kernel) rfl rfl ?_
    refine x_isub (pc := 65) (show decode mX7_lay.2.1 65 = .ok (.isub, 1) by decide +kernel) ?_
    obtain ⟨hg, hR⟩ := hR
    refine x_icmp_lt (pc := 66) (tgt := 72) (show decode mX7_lay.2.1 66 = .ok (.if_icmp .lt 6, 3) by decide +kernel) (by decide) ⟨hg.1, hg.2⟩ (fun hc => ?_) (fun hc => ?_)
    · replace hR := hR.1 hc
      refine x_aload_n (pc := 72) (show decode mX7_lay.2.1 72 = .ok (.aload_n 0, 1) by decide +kernel) rfl rfl ?_
      refine x_getR (pc := 73) f7_69 rfl rfl (show decode mX7_lay.2.1 73 = .ok (.getfield 69, 3) by decide +kernel) ?_
      refine x_iload_n (pc := 76) (show decode mX7_lay.2.1 76 = .ok (.iload_n 1, 1) by decide +kernel) rfl rfl ?_
      refine x_iload_n (pc := 77) (show decode mX7_lay.2.1 77 = .ok (.iload_n 2, 1) by decide +kernel) rfl rfl ?_
      refine x_iload (pc := 78) (show decode mX7_lay.2.1 78 = .ok (.iload 4, 2) by decide +kernel) rfl ?_
      refine x_iadd (pc := 80) (show decode mX7_lay.2.1 80 = .ok (.iadd, 1) by decide +kernel) ?_
      refine x_aload_n (pc := 81) (show decode mX7_lay.2.1 81 = .ok (.aload_n 0, 1) by decide +kernel) rfl rfl ?_
      refine x_getR (pc := 82) f7_21 rfl rfl (show decode mX7_lay.2.1 82 = .ok (.getfield 21, 3) by decide +kernel) ?_
      refine x_getR (pc := 85) f7_211 rfl rfl (show decode mX7_lay.2.1 85 = .ok (.getfield 211, 3) by decide +kernel) ?_
      refine x_iload (pc := 88) (show decode mX7_lay.2.1 88 = .ok (.iload 4, 2) by decide +kernel) rfl ?_
      obtain ⟨hg, hR⟩ := hR
      refine x_iald (pc := 90) rfl (by decide) hg (show decode mX7_lay.2.1 90 = .ok (.iaload, 1) by decide +kernel) ?_
      obtain ⟨hg, hR⟩ := hR
      refine x_i2l (pc := 91) (show decode mX7_lay.2.1 91 = .ok (.i2l, 1) by decide +kernel) hg ?_
      refine x_callV (pc := 92) (As := [.inl x1, .inl (x2 + x4), .inr (.inl (h 7 x4))]) (rest := []) (lk7_294 rfl) im_X4_put sl_X4_put rfl rfl rfl (Nat.le_of_ble_eq_true rfl) (Nat.le_of_ble_eq_true rfl) (show decode mX7_lay.2.1 92 = .ok (.invokevirtual 294, 3) by decide +kernel) hd hR (fun r9 h1 hq => ?_)
      obtain ⟨rfl, hR⟩ := hq
      show xG _ _ _ 95 _ [] _ _
      refine x_iinc (pc := 95) (ls' := [some (.inr (.inr 0)), some (.inl x1), some (.inl x2), some (.inl x3), some (.inl (x4 + 1))]) (show decode mX7_lay.2.1 95 = .ok (.iinc 4 1, 3) by decide +kernel) (by decide) rfl rfl ?_
      refine x_goto (pc := 98) (tgt := 47) (show decode mX7_lay.2.1 98 = .ok (.goto (-51), 3) by decide +kernel) (by decide) ?_
      exact hR
    · replace hR := hR.2 hc
      refine x_bipush (pc := 69) (n := (-13)) (show decode mX7_lay.2.1 69 = .ok (.bipush (-13), 2) by decide +kernel) rfl ?_
      exact x_iret (pc := 71) rfl (show decode mX7_lay.2.1 71 = .ok (.ireturn, 1) by decide +kernel) ⟨_, rfl, hR⟩
set_option maxRecDepth 4000 in
theorem sg_X7_seen_0 {d : Nat} {x1 x2 x3 : Int} {h : xH} {Q : Int → xH → Prop} (hd : 1 ≤ d)
    (hR : cB wdC (d - 1) mX3_isPin [.inr (.inr 1), .inl x1] h (fun h1 => cB wdC (d - 1) mX4_isList [.inr (.inr 50), .inl x2] h1 (fun h2 => cB wdC (d - 1) mX4_holds [.inr (.inr 50), .inl x2] h2 (fun h3 => (inI x3) ∧ (x3 < 0 → Q (-13) h3) ∧ (0 ≤ x3 → (0 ≤ x2 ∧ x2 < 4) ∧ (inI (2 * (h3 1 0)) ∧ inI ((h3 51 x2) - x3)) ∧ ((2 * (h3 1 0)) ≤ ((h3 51 x2) - x3) → cL wdC (d - 1) mX7_readyPins [.inr (.inr 0)] h3 (fun r5 h4 => cB wdC (d - 1) mX7_hasPin [.inr (.inl r5), .inl x1] h4 (fun h6 => gI wdC d mX7_seen 88 [some (.inr (.inr 0)), some (.inl x1), some (.inl x2), some (.inl x3), some (.inl 0), some (.inl 0)] h6 Q) (fun h6 => Q (-3) h6))) ∧ (((h3 51 x2) - x3) < (2 * (h3 1 0)) → Q (-13) h3))) (fun h3 => Q (-11) h3)) (fun h2 => Q (-1) h2)) (fun h1 => Q (-1) h1)) :
    gI wdC d mX7_seen 0 [some (.inr (.inr 0)), some (.inl x1), some (.inl x2), some (.inl x3), none, none] h Q := by
  unfold gI
  refine x_aload_n (pc := 0) (show decode mX7_seen.2.1 0 = .ok (.aload_n 0, 1) by decide +kernel) rfl rfl ?_
  refine x_getR (pc := 1) f7_12 rfl rfl (show decode mX7_seen.2.1 1 = .ok (.getfield 12, 3) by decide +kernel) ?_
  refine x_iload_n (pc := 4) (show decode mX7_seen.2.1 4 = .ok (.iload_n 1, 1) by decide +kernel) rfl rfl ?_
  refine x_callV (pc := 5) (As := [.inl x1]) (rest := []) (lk7_110 rfl) im_X3_isPin sl_X3_isPin rfl rfl rfl (Nat.le_of_ble_eq_true rfl) (Nat.le_of_ble_eq_true rfl) (show decode mX7_seen.2.1 5 = .ok (.invokevirtual 110, 3) by decide +kernel) hd hR (fun r9 h1 hq => ?_)
  obtain ⟨r8, rfl, hq⟩ := hq
  rcases hq with ⟨rfl, hR⟩ | ⟨rfl, hR⟩
  · show xG _ _ _ 8 _ [.inl 1] _ _
    refine x_if_eq (pc := 8) (tgt := 22) (show decode mX7_seen.2.1 8 = .ok (.ifCond .eq 14, 3) by decide +kernel) (by decide) (by unfold inI; decide) (fun hc => absurd hc (by decide)) (fun _ => ?_)
    refine x_aload_n (pc := 11) (show decode mX7_seen.2.1 11 = .ok (.aload_n 0, 1) by decide +kernel) rfl rfl ?_
    refine x_getR (pc := 12) f7_69 rfl rfl (show decode mX7_seen.2.1 12 = .ok (.getfield 69, 3) by decide +kernel) ?_
    refine x_iload_n (pc := 15) (show decode mX7_seen.2.1 15 = .ok (.iload_n 2, 1) by decide +kernel) rfl rfl ?_
    refine x_callV (pc := 16) (As := [.inl x2]) (rest := []) (lk7_285 rfl) im_X4_isList sl_X4_isList rfl rfl rfl (Nat.le_of_ble_eq_true rfl) (Nat.le_of_ble_eq_true rfl) (show decode mX7_seen.2.1 16 = .ok (.invokevirtual 285, 3) by decide +kernel) hd hR (fun r9 h2 hq => ?_)
    obtain ⟨r8, rfl, hq⟩ := hq
    rcases hq with ⟨rfl, hR⟩ | ⟨rfl, hR⟩
    · show xG _ _ _ 19 _ [.inl 1] _ _
      refine x_if_ne (pc := 19) (tgt := 24) (show decode mX7_seen.2.1 19 = .ok (.ifCond .ne 5, 3) by decide +kernel) (by decide) (by unfold inI; decide) (fun _ => ?_) (fun hc => absurd hc (by decide))
      refine x_aload_n (pc := 24) (show decode mX7_seen.2.1 24 = .ok (.aload_n 0, 1) by decide +kernel) rfl rfl ?_
      refine x_getR (pc := 25) f7_69 rfl rfl (show decode mX7_seen.2.1 25 = .ok (.getfield 69, 3) by decide +kernel) ?_
      refine x_iload_n (pc := 28) (show decode mX7_seen.2.1 28 = .ok (.iload_n 2, 1) by decide +kernel) rfl rfl ?_
      refine x_callV (pc := 29) (As := [.inl x2]) (rest := []) (lk7_288 rfl) im_X4_holds sl_X4_holds rfl rfl rfl (Nat.le_of_ble_eq_true rfl) (Nat.le_of_ble_eq_true rfl) (show decode mX7_seen.2.1 29 = .ok (.invokevirtual 288, 3) by decide +kernel) hd hR (fun r9 h3 hq => ?_)
      obtain ⟨r8, rfl, hq⟩ := hq
      rcases hq with ⟨rfl, hR⟩ | ⟨rfl, hR⟩
      · show xG _ _ _ 32 _ [.inl 1] _ _
        refine x_if_ne (pc := 32) (tgt := 38) (show decode mX7_seen.2.1 32 = .ok (.ifCond .ne 6, 3) by decide +kernel) (by decide) (by unfold inI; decide) (fun _ => ?_) (fun hc => absurd hc (by decide))
        refine x_iload_n (pc := 38) (show decode mX7_seen.2.1 38 = .ok (.iload_n 3, 1) by decide +kernel) rfl rfl ?_
        obtain ⟨hg, hR⟩ := hR
        refine x_if_lt (pc := 39) (tgt := 65) (show decode mX7_seen.2.1 39 = .ok (.ifCond .lt 26, 3) by decide +kernel) (by decide) hg (fun hc => ?_) (fun hc => ?_)
        · replace hR := hR.1 hc
          refine x_bipush (pc := 65) (n := (-13)) (show decode mX7_seen.2.1 65 = .ok (.bipush (-13), 2) by decide +kernel) rfl ?_
          exact x_iret (pc := 67) rfl (show decode mX7_seen.2.1 67 = .ok (.ireturn, 1) by decide +kernel) ⟨_, rfl, hR⟩
        · replace hR := hR.2 hc
          refine x_iconst (pc := 42) (n := 2) (show decode mX7_seen.2.1 42 = .ok (.iconst 2, 1) by decide +kernel) ?_
          refine x_aload_n (pc := 43) (show decode mX7_seen.2.1 43 = .ok (.aload_n 0, 1) by decide +kernel) rfl rfl ?_
          refine x_getR (pc := 44) f7_12 rfl rfl (show decode mX7_seen.2.1 44 = .ok (.getfield 12, 3) by decide +kernel) ?_
          refine x_getI (pc := 47) (ki := 0) f7_86 rfl rfl (by decide) rfl (show decode mX7_seen.2.1 47 = .ok (.getfield 86, 3) by decide +kernel) ?_
          refine x_imul (pc := 50) (show decode mX7_seen.2.1 50 = .ok (.imul, 1) by decide +kernel) ?_
          refine x_aload_n (pc := 51) (show decode mX7_seen.2.1 51 = .ok (.aload_n 0, 1) by decide +kernel) rfl rfl ?_
          refine x_getR (pc := 52) f7_69 rfl rfl (show decode mX7_seen.2.1 52 = .ok (.getfield 69, 3) by decide +kernel) ?_
          refine x_getR (pc := 55) f7_291 rfl rfl (show decode mX7_seen.2.1 55 = .ok (.getfield 291, 3) by decide +kernel) ?_
          refine x_iload_n (pc := 58) (show decode mX7_seen.2.1 58 = .ok (.iload_n 2, 1) by decide +kernel) rfl rfl ?_
          obtain ⟨hg, hR⟩ := hR
          refine x_iald (pc := 59) rfl (by decide) hg (show decode mX7_seen.2.1 59 = .ok (.iaload, 1) by decide +kernel) ?_
          refine x_iload_n (pc := 60) (show decode mX7_seen.2.1 60 = .ok (.iload_n 3, 1) by decide +kernel) rfl rfl ?_
          refine x_isub (pc := 61) (show decode mX7_seen.2.1 61 = .ok (.isub, 1) by decide +kernel) ?_
          obtain ⟨hg, hR⟩ := hR
          refine x_icmp_le (pc := 62) (tgt := 68) (show decode mX7_seen.2.1 62 = .ok (.if_icmp .le 6, 3) by decide +kernel) (by decide) ⟨hg.1, hg.2⟩ (fun hc => ?_) (fun hc => ?_)
          · replace hR := hR.1 hc
            refine x_aload_n (pc := 68) (show decode mX7_seen.2.1 68 = .ok (.aload_n 0, 1) by decide +kernel) rfl rfl ?_
            refine x_callV (pc := 69) (As := []) (rest := []) (lk7_174 rfl) im_X7_readyPins sl_X7_readyPins rfl rfl rfl (Nat.le_of_ble_eq_true rfl) (Nat.le_of_ble_eq_true rfl) (show decode mX7_seen.2.1 69 = .ok (.invokevirtual 174, 3) by decide +kernel) hd hR (fun r9 h4 hq => ?_)
            obtain ⟨r5, rfl, hR⟩ := hq
            show xG _ _ _ 72 _ [.inr (.inl r5)] _ _
            refine x_iload_n (pc := 72) (show decode mX7_seen.2.1 72 = .ok (.iload_n 1, 1) by decide +kernel) rfl rfl ?_
            refine x_callS (pc := 73) (As := [.inr (.inl r5), .inl x1]) (rest := []) (lk7_189 rfl) sm_X7_hasPin (Nat.le_of_ble_eq_true rfl) (Nat.le_of_ble_eq_true rfl) (show decode mX7_seen.2.1 73 = .ok (.invokestatic 189, 3) by decide +kernel) hd hR (fun r9 h6 hq => ?_)
            obtain ⟨r8, rfl, hq⟩ := hq
            rcases hq with ⟨rfl, hR⟩ | ⟨rfl, hR⟩
            · show xG _ _ _ 76 _ [.inl 1] _ _
              refine x_if_ne (pc := 76) (tgt := 82) (show decode mX7_seen.2.1 76 = .ok (.ifCond .ne 6, 3) by decide +kernel) (by decide) (by unfold inI; decide) (fun _ => ?_) (fun hc => absurd hc (by decide))
              refine x_iconst (pc := 82) (n := 0) (show decode mX7_seen.2.1 82 = .ok (.iconst 0, 1) by decide +kernel) ?_
              refine x_istore (pc := 83) (ls' := [some (.inr (.inr 0)), some (.inl x1), some (.inl x2), some (.inl x3), some (.inl 0), none]) (show decode mX7_seen.2.1 83 = .ok (.istore 4, 2) by decide +kernel) (by decide) rfl ?_
              refine x_iconst (pc := 85) (n := 0) (show decode mX7_seen.2.1 85 = .ok (.iconst 0, 1) by decide +kernel) ?_
              refine x_istore (pc := 86) (ls' := [some (.inr (.inr 0)), some (.inl x1), some (.inl x2), some (.inl x3), some (.inl 0), some (.inl 0)]) (show decode mX7_seen.2.1 86 = .ok (.istore 5, 2) by decide +kernel) (by decide) rfl ?_
              exact hR
            · show xG _ _ _ 76 _ [.inl 0] _ _
              refine x_if_ne (pc := 76) (tgt := 82) (show decode mX7_seen.2.1 76 = .ok (.ifCond .ne 6, 3) by decide +kernel) (by decide) (by unfold inI; decide) (fun hc => absurd hc (by decide)) (fun _ => ?_)
              refine x_bipush (pc := 79) (n := (-3)) (show decode mX7_seen.2.1 79 = .ok (.bipush (-3), 2) by decide +kernel) rfl ?_
              exact x_iret (pc := 81) rfl (show decode mX7_seen.2.1 81 = .ok (.ireturn, 1) by decide +kernel) ⟨_, rfl, hR⟩
          · replace hR := hR.2 hc
            refine x_bipush (pc := 65) (n := (-13)) (show decode mX7_seen.2.1 65 = .ok (.bipush (-13), 2) by decide +kernel) rfl ?_
            exact x_iret (pc := 67) rfl (show decode mX7_seen.2.1 67 = .ok (.ireturn, 1) by decide +kernel) ⟨_, rfl, hR⟩
      · show xG _ _ _ 32 _ [.inl 0] _ _
        refine x_if_ne (pc := 32) (tgt := 38) (show decode mX7_seen.2.1 32 = .ok (.ifCond .ne 6, 3) by decide +kernel) (by decide) (by unfold inI; decide) (fun hc => absurd hc (by decide)) (fun _ => ?_)
        refine x_bipush (pc := 35) (n := (-11)) (show decode mX7_seen.2.1 35 = .ok (.bipush (-11), 2) by decide +kernel) rfl ?_
        exact x_iret (pc := 37) rfl (show decode mX7_seen.2.1 37 = .ok (.ireturn, 1) by decide +kernel) ⟨_, rfl, hR⟩
    · show xG _ _ _ 19 _ [.inl 0] _ _
      refine x_if_ne (pc := 19) (tgt := 24) (show decode mX7_seen.2.1 19 = .ok (.ifCond .ne 5, 3) by decide +kernel) (by decide) (by unfold inI; decide) (fun hc => absurd hc (by decide)) (fun _ => ?_)
      refine x_iconst (pc := 22) (n := (-1)) (show decode mX7_seen.2.1 22 = .ok (.iconst (-1), 1) by decide +kernel) ?_
      exact x_iret (pc := 23) rfl (show decode mX7_seen.2.1 23 = .ok (.ireturn, 1) by decide +kernel) ⟨_, rfl, hR⟩
  · show xG _ _ _ 8 _ [.inl 0] _ _
    refine x_if_eq (pc := 8) (tgt := 22) (show decode mX7_seen.2.1 8 = .ok (.ifCond .eq 14, 3) by decide +kernel) (by decide) (by unfold inI; decide) (fun _ => ?_) (fun hc => absurd hc (by decide))
    refine x_iconst (pc := 22) (n := (-1)) (show decode mX7_seen.2.1 22 = .ok (.iconst (-1), 1) by decide +kernel) ?_
    exact x_iret (pc := 23) rfl (show decode mX7_seen.2.1 23 = .ok (.ireturn, 1) by decide +kernel) ⟨_, rfl, hR⟩
set_option maxRecDepth 4000 in
theorem sg_X7_seen_88 {d : Nat} {x1 x2 x3 x4 x5 : Int} {h : xH} {Q : Int → xH → Prop} (hd : 1 ≤ d)
    (hR : (inI x5) ∧ (5 ≤ x5 → Q x4 h) ∧ (x5 < 5 → cB wdC (d - 1) mX7_wouldBeSeen [.inr (.inr 0), .inl x1, .inl x5, .inl x2, .inl x3] h (fun h1 => (0 ≤ x5 ∧ x5 ≤ 31) ∧ gI wdC d mX7_seen 88 [some (.inr (.inr 0)), some (.inl x1), some (.inl x2), some (.inl x3), some (.inl (xorI x4 (1 * 2 ^ (Int.toNat x5)))), some (.inl (x5 + 1))] h1 Q) (fun h1 => gI wdC d mX7_seen 88 [some (.inr (.inr 0)), some (.inl x1), some (.inl x2), some (.inl x3), some (.inl x4), some (.inl (x5 + 1))] h1 Q))) :
    gI wdC d mX7_seen 88 [some (.inr (.inr 0)), some (.inl x1), some (.inl x2), some (.inl x3), some (.inl x4), some (.inl x5)] h Q := by
  unfold gI
  refine x_iload (pc := 88) (show decode mX7_seen.2.1 88 = .ok (.iload 5, 2) by decide +kernel) rfl ?_
  refine x_iconst (pc := 90) (n := 5) (show decode mX7_seen.2.1 90 = .ok (.iconst 5, 1) by decide +kernel) ?_
  obtain ⟨hg, hR⟩ := hR
  refine x_icmp_ge (pc := 91) (tgt := 121) (show decode mX7_seen.2.1 91 = .ok (.if_icmp .ge 30, 3) by decide +kernel) (by decide) ⟨hg, (by unfold inI; decide)⟩ (fun hc => ?_) (fun hc => ?_)
  · replace hR := hR.1 hc
    refine x_iload (pc := 121) (show decode mX7_seen.2.1 121 = .ok (.iload 4, 2) by decide +kernel) rfl ?_
    exact x_iret (pc := 123) rfl (show decode mX7_seen.2.1 123 = .ok (.ireturn, 1) by decide +kernel) ⟨_, rfl, hR⟩
  · replace hR := hR.2 hc
    refine x_aload_n (pc := 94) (show decode mX7_seen.2.1 94 = .ok (.aload_n 0, 1) by decide +kernel) rfl rfl ?_
    refine x_iload_n (pc := 95) (show decode mX7_seen.2.1 95 = .ok (.iload_n 1, 1) by decide +kernel) rfl rfl ?_
    refine x_iload (pc := 96) (show decode mX7_seen.2.1 96 = .ok (.iload 5, 2) by decide +kernel) rfl ?_
    refine x_iload_n (pc := 98) (show decode mX7_seen.2.1 98 = .ok (.iload_n 2, 1) by decide +kernel) rfl rfl ?_
    refine x_iload_n (pc := 99) (show decode mX7_seen.2.1 99 = .ok (.iload_n 3, 1) by decide +kernel) rfl rfl ?_
    refine x_callV (pc := 100) (As := [.inl x1, .inl x5, .inl x2, .inl x3]) (rest := []) (lk7_298 rfl) im_X7_wouldBeSeen sl_X7_wouldBeSeen rfl rfl rfl (Nat.le_of_ble_eq_true rfl) (Nat.le_of_ble_eq_true rfl) (show decode mX7_seen.2.1 100 = .ok (.invokevirtual 298, 3) by decide +kernel) hd hR (fun r9 h1 hq => ?_)
    obtain ⟨r8, rfl, hq⟩ := hq
    rcases hq with ⟨rfl, hR⟩ | ⟨rfl, hR⟩
    · show xG _ _ _ 103 _ [.inl 1] _ _
      refine x_if_eq (pc := 103) (tgt := 115) (show decode mX7_seen.2.1 103 = .ok (.ifCond .eq 12, 3) by decide +kernel) (by decide) (by unfold inI; decide) (fun hc => absurd hc (by decide)) (fun _ => ?_)
      refine x_iload (pc := 106) (show decode mX7_seen.2.1 106 = .ok (.iload 4, 2) by decide +kernel) rfl ?_
      refine x_iconst (pc := 108) (n := 1) (show decode mX7_seen.2.1 108 = .ok (.iconst 1, 1) by decide +kernel) ?_
      refine x_iload (pc := 109) (show decode mX7_seen.2.1 109 = .ok (.iload 5, 2) by decide +kernel) rfl ?_
      obtain ⟨hg, hR⟩ := hR
      refine x_ishl (pc := 111) (show decode mX7_seen.2.1 111 = .ok (.ishl, 1) by decide +kernel) hg ?_
      refine x_ior (pc := 112) (show decode mX7_seen.2.1 112 = .ok (.ior, 1) by decide +kernel) ?_
      refine x_istore (pc := 113) (ls' := [some (.inr (.inr 0)), some (.inl x1), some (.inl x2), some (.inl x3), some (.inl (xorI x4 (1 * 2 ^ (Int.toNat x5)))), some (.inl x5)]) (show decode mX7_seen.2.1 113 = .ok (.istore 4, 2) by decide +kernel) (by decide) rfl ?_
      refine x_iinc (pc := 115) (ls' := [some (.inr (.inr 0)), some (.inl x1), some (.inl x2), some (.inl x3), some (.inl (xorI x4 (1 * 2 ^ (Int.toNat x5)))), some (.inl (x5 + 1))]) (show decode mX7_seen.2.1 115 = .ok (.iinc 5 1, 3) by decide +kernel) (by decide) rfl rfl ?_
      refine x_goto (pc := 118) (tgt := 88) (show decode mX7_seen.2.1 118 = .ok (.goto (-30), 3) by decide +kernel) (by decide) ?_
      exact hR
    · show xG _ _ _ 103 _ [.inl 0] _ _
      refine x_if_eq (pc := 103) (tgt := 115) (show decode mX7_seen.2.1 103 = .ok (.ifCond .eq 12, 3) by decide +kernel) (by decide) (by unfold inI; decide) (fun _ => ?_) (fun hc => absurd hc (by decide))
      refine x_iinc (pc := 115) (ls' := [some (.inr (.inr 0)), some (.inl x1), some (.inl x2), some (.inl x3), some (.inl x4), some (.inl (x5 + 1))]) (show decode mX7_seen.2.1 115 = .ok (.iinc 5 1, 3) by decide +kernel) (by decide) rfl rfl ?_
      refine x_goto (pc := 118) (tgt := 88) (show decode mX7_seen.2.1 118 = .ok (.goto (-30), 3) by decide +kernel) (by decide) ?_
      exact hR
set_option maxRecDepth 4000 in
theorem sg_X7_feed_0 {d : Nat} {x1 : Int} {h : xH} {Q : Int → xH → Prop} (hd : 1 ≤ d)
    (hR : (inI x1) ∧ (x1 < 1 → Q (-2) h) ∧ (1 ≤ x1 → (inI x1) ∧ (x1 ≤ 127 → cB wdC (d - 1) mX5_append [.inr (.inr 44), .inl x1] h (fun h1 => Q (h1 44 1) h1) (fun h1 => Q (-4) h1)) ∧ (127 < x1 → Q (-2) h))) :
    gI wdC d mX7_feed 0 [some (.inr (.inr 0)), some (.inl x1)] h Q := by
  unfold gI
  refine x_iload_n (pc := 0) (show decode mX7_feed.2.1 0 = .ok (.iload_n 1, 1) by decide +kernel) rfl rfl ?_
  refine x_iconst (pc := 1) (n := 1) (show decode mX7_feed.2.1 1 = .ok (.iconst 1, 1) by decide +kernel) ?_
  obtain ⟨hg, hR⟩ := hR
  refine x_icmp_lt (pc := 2) (tgt := 11) (show decode mX7_feed.2.1 2 = .ok (.if_icmp .lt 9, 3) by decide +kernel) (by decide) ⟨hg, (by unfold inI; decide)⟩ (fun hc => ?_) (fun hc => ?_)
  · replace hR := hR.1 hc
    refine x_bipush (pc := 11) (n := (-2)) (show decode mX7_feed.2.1 11 = .ok (.bipush (-2), 2) by decide +kernel) rfl ?_
    exact x_iret (pc := 13) rfl (show decode mX7_feed.2.1 13 = .ok (.ireturn, 1) by decide +kernel) ⟨_, rfl, hR⟩
  · replace hR := hR.2 hc
    refine x_iload_n (pc := 5) (show decode mX7_feed.2.1 5 = .ok (.iload_n 1, 1) by decide +kernel) rfl rfl ?_
    refine x_bipush (pc := 6) (n := 127) (show decode mX7_feed.2.1 6 = .ok (.bipush 127, 2) by decide +kernel) rfl ?_
    obtain ⟨hg, hR⟩ := hR
    refine x_icmp_le (pc := 8) (tgt := 14) (show decode mX7_feed.2.1 8 = .ok (.if_icmp .le 6, 3) by decide +kernel) (by decide) ⟨hg, (by unfold inI; decide)⟩ (fun hc => ?_) (fun hc => ?_)
    · replace hR := hR.1 hc
      refine x_aload_n (pc := 14) (show decode mX7_feed.2.1 14 = .ok (.aload_n 0, 1) by decide +kernel) rfl rfl ?_
      refine x_getR (pc := 15) f7_62 rfl rfl (show decode mX7_feed.2.1 15 = .ok (.getfield 62, 3) by decide +kernel) ?_
      refine x_iload_n (pc := 18) (show decode mX7_feed.2.1 18 = .ok (.iload_n 1, 1) by decide +kernel) rfl rfl ?_
      refine x_callV (pc := 19) (As := [.inl x1]) (rest := []) (lk7_302 rfl) im_X5_append sl_X5_append rfl rfl rfl (Nat.le_of_ble_eq_true rfl) (Nat.le_of_ble_eq_true rfl) (show decode mX7_feed.2.1 19 = .ok (.invokevirtual 302, 3) by decide +kernel) hd hR (fun r9 h1 hq => ?_)
      obtain ⟨r8, rfl, hq⟩ := hq
      rcases hq with ⟨rfl, hR⟩ | ⟨rfl, hR⟩
      · show xG _ _ _ 22 _ [.inl 1] _ _
        refine x_if_eq (pc := 22) (tgt := 35) (show decode mX7_feed.2.1 22 = .ok (.ifCond .eq 13, 3) by decide +kernel) (by decide) (by unfold inI; decide) (fun hc => absurd hc (by decide)) (fun _ => ?_)
        refine x_aload_n (pc := 25) (show decode mX7_feed.2.1 25 = .ok (.aload_n 0, 1) by decide +kernel) rfl rfl ?_
        refine x_getR (pc := 26) f7_62 rfl rfl (show decode mX7_feed.2.1 26 = .ok (.getfield 62, 3) by decide +kernel) ?_
        refine x_getI (pc := 29) (ki := 1) f7_305 rfl rfl (by decide) rfl (show decode mX7_feed.2.1 29 = .ok (.getfield 305, 3) by decide +kernel) ?_
        refine x_goto (pc := 32) (tgt := 37) (show decode mX7_feed.2.1 32 = .ok (.goto 5, 3) by decide +kernel) (by decide) ?_
        exact x_iret (pc := 37) rfl (show decode mX7_feed.2.1 37 = .ok (.ireturn, 1) by decide +kernel) ⟨_, rfl, hR⟩
      · show xG _ _ _ 22 _ [.inl 0] _ _
        refine x_if_eq (pc := 22) (tgt := 35) (show decode mX7_feed.2.1 22 = .ok (.ifCond .eq 13, 3) by decide +kernel) (by decide) (by unfold inI; decide) (fun _ => ?_) (fun hc => absurd hc (by decide))
        refine x_bipush (pc := 35) (n := (-4)) (show decode mX7_feed.2.1 35 = .ok (.bipush (-4), 2) by decide +kernel) rfl ?_
        exact x_iret (pc := 37) rfl (show decode mX7_feed.2.1 37 = .ok (.ireturn, 1) by decide +kernel) ⟨_, rfl, hR⟩
    · replace hR := hR.2 hc
      refine x_bipush (pc := 11) (n := (-2)) (show decode mX7_feed.2.1 11 = .ok (.bipush (-2), 2) by decide +kernel) rfl ?_
      exact x_iret (pc := 13) rfl (show decode mX7_feed.2.1 13 = .ok (.ireturn, 1) by decide +kernel) ⟨_, rfl, hR⟩
set_option maxRecDepth 4000 in
theorem sg_X7_clear_0 {d : Nat} {h : xH} {Q : Int → xH → Prop}
    (hR : Q (h 44 1) (xu h 44 1 0)) :
    gI wdC d mX7_clear 0 [some (.inr (.inr 0)), none] h Q := by
  unfold gI
  refine x_aload_n (pc := 0) (show decode mX7_clear.2.1 0 = .ok (.aload_n 0, 1) by decide +kernel) rfl rfl ?_
  refine x_getR (pc := 1) f7_62 rfl rfl (show decode mX7_clear.2.1 1 = .ok (.getfield 62, 3) by decide +kernel) ?_
  refine x_getI (pc := 4) (ki := 1) f7_305 rfl rfl (by decide) rfl (show decode mX7_clear.2.1 4 = .ok (.getfield 305, 3) by decide +kernel) ?_
  refine x_istore_n (pc := 7) (ls' := [some (.inr (.inr 0)), some (.inl (h 44 1))]) (show decode mX7_clear.2.1 7 = .ok (.istore_n 1, 1) by decide +kernel) rfl (by decide) rfl ?_
  refine x_aload_n (pc := 8) (show decode mX7_clear.2.1 8 = .ok (.aload_n 0, 1) by decide +kernel) rfl rfl ?_
  refine x_getR (pc := 9) f7_62 rfl rfl (show decode mX7_clear.2.1 9 = .ok (.getfield 62, 3) by decide +kernel) ?_
  refine x_iconst (pc := 12) (n := 0) (show decode mX7_clear.2.1 12 = .ok (.iconst 0, 1) by decide +kernel) ?_
  refine x_putI (pc := 13) (ki := 1) f7_305 fp5_1 rfl rfl rfl (show decode mX7_clear.2.1 13 = .ok (.putfield 305, 3) by decide +kernel) ?_
  refine x_iload_n (pc := 16) (show decode mX7_clear.2.1 16 = .ok (.iload_n 1, 1) by decide +kernel) rfl rfl ?_
  exact x_iret (pc := 17) rfl (show decode mX7_clear.2.1 17 = .ok (.ireturn, 1) by decide +kernel) ⟨_, rfl, hR⟩
set_option maxRecDepth 4000 in
theorem sg_X7_pricking_0 {d : Nat} {h : xH} {Q : Int → xH → Prop} (hd : 1 ≤ d)
    (hR : cV wdC (d - 1) mX5_read [.inr (.inr 44)] h (fun h1 => (inI (h1 44 3)) ∧ ((h1 44 3) < 0 → cB wdC (d - 1) mX7_anyDone [.inr (.inr 0)] (xu h1 44 1 0) (fun h2 => Q (-300) h2) (fun h2 => cV wdC (d - 1) mX3_copyFrom [.inr (.inr 21), .inr (.inr 1)] h2 (fun h3 => gI wdC d mX7_pricking 60 [some (.inr (.inr 0)), some (.inl 0)] h3 Q))) ∧ (0 ≤ (h1 44 3) → Q ((-100) - (h1 44 3)) (xu h1 44 1 0)))) :
    gI wdC d mX7_pricking 0 [some (.inr (.inr 0)), none] h Q := by
  unfold gI
  refine x_aload_n (pc := 0) (show decode mX7_pricking.2.1 0 = .ok (.aload_n 0, 1) by decide +kernel) rfl rfl ?_
  refine x_getR (pc := 1) f7_62 rfl rfl (show decode mX7_pricking.2.1 1 = .ok (.getfield 62, 3) by decide +kernel) ?_
  refine x_callV (pc := 4) (As := []) (rest := []) (lk7_308 rfl) im_X5_read sl_X5_read rfl rfl rfl (Nat.le_of_ble_eq_true rfl) (Nat.le_of_ble_eq_true rfl) (show decode mX7_pricking.2.1 4 = .ok (.invokevirtual 308, 3) by decide +kernel) hd hR (fun r9 h1 hq => ?_)
  obtain ⟨rfl, hR⟩ := hq
  show xG _ _ _ 7 _ [] _ _
  refine x_aload_n (pc := 7) (show decode mX7_pricking.2.1 7 = .ok (.aload_n 0, 1) by decide +kernel) rfl rfl ?_
  refine x_getR (pc := 8) f7_62 rfl rfl (show decode mX7_pricking.2.1 8 = .ok (.getfield 62, 3) by decide +kernel) ?_
  refine x_iconst (pc := 11) (n := 0) (show decode mX7_pricking.2.1 11 = .ok (.iconst 0, 1) by decide +kernel) ?_
  refine x_putI (pc := 12) (ki := 1) f7_305 fp5_1 rfl rfl rfl (show decode mX7_pricking.2.1 12 = .ok (.putfield 305, 3) by decide +kernel) ?_
  refine x_aload_n (pc := 15) (show decode mX7_pricking.2.1 15 = .ok (.aload_n 0, 1) by decide +kernel) rfl rfl ?_
  refine x_getR (pc := 16) f7_62 rfl rfl (show decode mX7_pricking.2.1 16 = .ok (.getfield 62, 3) by decide +kernel) ?_
  refine x_getI (pc := 19) (ki := 3) f7_311 rfl rfl (by decide) rfl (show decode mX7_pricking.2.1 19 = .ok (.getfield 311, 3) by decide +kernel) ?_
  obtain ⟨hg, hR⟩ := hR
  refine x_if_lt (pc := 22) (tgt := 36) (show decode mX7_pricking.2.1 22 = .ok (.ifCond .lt 14, 3) by decide +kernel) (by decide) hg (fun hc => ?_) (fun hc => ?_)
  · replace hR := hR.1 hc
    refine x_aload_n (pc := 36) (show decode mX7_pricking.2.1 36 = .ok (.aload_n 0, 1) by decide +kernel) rfl rfl ?_
    refine x_callV (pc := 37) (As := []) (rest := []) (lk7_99 rfl) im_X7_anyDone sl_X7_anyDone rfl rfl rfl (Nat.le_of_ble_eq_true rfl) (Nat.le_of_ble_eq_true rfl) (show decode mX7_pricking.2.1 37 = .ok (.invokevirtual 99, 3) by decide +kernel) hd hR (fun r9 h2 hq => ?_)
    obtain ⟨r8, rfl, hq⟩ := hq
    rcases hq with ⟨rfl, hR⟩ | ⟨rfl, hR⟩
    · show xG _ _ _ 40 _ [.inl 1] _ _
      refine x_if_eq (pc := 40) (tgt := 47) (show decode mX7_pricking.2.1 40 = .ok (.ifCond .eq 7, 3) by decide +kernel) (by decide) (by unfold inI; decide) (fun hc => absurd hc (by decide)) (fun _ => ?_)
      refine x_sipush (pc := 43) (n := (-300)) (show decode mX7_pricking.2.1 43 = .ok (.sipush (-300), 3) by decide +kernel) rfl ?_
      exact x_iret (pc := 46) rfl (show decode mX7_pricking.2.1 46 = .ok (.ireturn, 1) by decide +kernel) ⟨_, rfl, hR⟩
    · show xG _ _ _ 40 _ [.inl 0] _ _
      refine x_if_eq (pc := 40) (tgt := 47) (show decode mX7_pricking.2.1 40 = .ok (.ifCond .eq 7, 3) by decide +kernel) (by decide) (by unfold inI; decide) (fun _ => ?_) (fun hc => absurd hc (by decide))
      refine x_aload_n (pc := 47) (show decode mX7_pricking.2.1 47 = .ok (.aload_n 0, 1) by decide +kernel) rfl rfl ?_
      refine x_getR (pc := 48) f7_35 rfl rfl (show decode mX7_pricking.2.1 48 = .ok (.getfield 35, 3) by decide +kernel) ?_
      refine x_aload_n (pc := 51) (show decode mX7_pricking.2.1 51 = .ok (.aload_n 0, 1) by decide +kernel) rfl rfl ?_
      refine x_getR (pc := 52) f7_12 rfl rfl (show decode mX7_pricking.2.1 52 = .ok (.getfield 12, 3) by decide +kernel) ?_
      refine x_callV (pc := 55) (As := [.inr (.inr 1)]) (rest := []) (lk7_314 rfl) im_X3_copyFrom sl_X3_copyFrom rfl rfl rfl (Nat.le_of_ble_eq_true rfl) (Nat.le_of_ble_eq_true rfl) (show decode mX7_pricking.2.1 55 = .ok (.invokevirtual 314, 3) by decide +kernel) hd hR (fun r9 h3 hq => ?_)
      obtain ⟨rfl, hR⟩ := hq
      show xG _ _ _ 58 _ [] _ _
      refine x_iconst (pc := 58) (n := 0) (show decode mX7_pricking.2.1 58 = .ok (.iconst 0, 1) by decide +kernel) ?_
      refine x_istore_n (pc := 59) (ls' := [some (.inr (.inr 0)), some (.inl 0)]) (show decode mX7_pricking.2.1 59 = .ok (.istore_n 1, 1) by decide +kernel) rfl (by decide) rfl ?_
      exact hR
  · replace hR := hR.2 hc
    refine x_bipush (pc := 25) (n := (-100)) (show decode mX7_pricking.2.1 25 = .ok (.bipush (-100), 2) by decide +kernel) rfl ?_
    refine x_aload_n (pc := 27) (show decode mX7_pricking.2.1 27 = .ok (.aload_n 0, 1) by decide +kernel) rfl rfl ?_
    refine x_getR (pc := 28) f7_62 rfl rfl (show decode mX7_pricking.2.1 28 = .ok (.getfield 62, 3) by decide +kernel) ?_
    refine x_getI (pc := 31) (ki := 3) f7_311 rfl rfl (by decide) rfl (show decode mX7_pricking.2.1 31 = .ok (.getfield 311, 3) by decide +kernel) ?_
    refine x_isub (pc := 34) (show decode mX7_pricking.2.1 34 = .ok (.isub, 1) by decide +kernel) ?_
    exact x_iret (pc := 35) rfl (show decode mX7_pricking.2.1 35 = .ok (.ireturn, 1) by decide +kernel) ⟨_, rfl, hR⟩
set_option maxRecDepth 4000 in
theorem sg_X7_pricking_60 {d : Nat} {x1 : Int} {h : xH} {Q : Int → xH → Prop} (hd : 1 ≤ d)
    (hR : (inI x1 ∧ inI (h 44 4)) ∧ ((h 44 4) ≤ x1 → Q (h 44 4) h) ∧ (x1 < (h 44 4) → cI wdC (d - 1) mX7_tellPart [.inr (.inr 0), .inl x1] h (fun r2 h1 => (inI r2) ∧ (0 ≤ r2 → gI wdC d mX7_pricking 60 [some (.inr (.inr 0)), some (.inl (x1 + 1))] h1 Q) ∧ (r2 < 0 → cV wdC (d - 1) mX3_copyFrom [.inr (.inr 1), .inr (.inr 21)] h1 (fun h3 => Q ((-300) - x1) h3))))) :
    gI wdC d mX7_pricking 60 [some (.inr (.inr 0)), some (.inl x1)] h Q := by
  unfold gI
  refine x_iload_n (pc := 60) (show decode mX7_pricking.2.1 60 = .ok (.iload_n 1, 1) by decide +kernel) rfl rfl ?_
  refine x_aload_n (pc := 61) (show decode mX7_pricking.2.1 61 = .ok (.aload_n 0, 1) by decide +kernel) rfl rfl ?_
  refine x_getR (pc := 62) f7_62 rfl rfl (show decode mX7_pricking.2.1 62 = .ok (.getfield 62, 3) by decide +kernel) ?_
  refine x_getI (pc := 65) (ki := 4) f7_317 rfl rfl (by decide) rfl (show decode mX7_pricking.2.1 65 = .ok (.getfield 317, 3) by decide +kernel) ?_
  obtain ⟨hg, hR⟩ := hR
  refine x_icmp_ge (pc := 68) (tgt := 102) (show decode mX7_pricking.2.1 68 = .ok (.if_icmp .ge 34, 3) by decide +kernel) (by decide) ⟨hg.1, hg.2⟩ (fun hc => ?_) (fun hc => ?_)
  · replace hR := hR.1 hc
    refine x_aload_n (pc := 102) (show decode mX7_pricking.2.1 102 = .ok (.aload_n 0, 1) by decide +kernel) rfl rfl ?_
    refine x_getR (pc := 103) f7_62 rfl rfl (show decode mX7_pricking.2.1 103 = .ok (.getfield 62, 3) by decide +kernel) ?_
    refine x_getI (pc := 106) (ki := 4) f7_317 rfl rfl (by decide) rfl (show decode mX7_pricking.2.1 106 = .ok (.getfield 317, 3) by decide +kernel) ?_
    exact x_iret (pc := 109) rfl (show decode mX7_pricking.2.1 109 = .ok (.ireturn, 1) by decide +kernel) ⟨_, rfl, hR⟩
  · replace hR := hR.2 hc
    refine x_aload_n (pc := 71) (show decode mX7_pricking.2.1 71 = .ok (.aload_n 0, 1) by decide +kernel) rfl rfl ?_
    refine x_iload_n (pc := 72) (show decode mX7_pricking.2.1 72 = .ok (.iload_n 1, 1) by decide +kernel) rfl rfl ?_
    refine x_callV (pc := 73) (As := [.inl x1]) (rest := []) (lk7_320 rfl) im_X7_tellPart sl_X7_tellPart rfl rfl rfl (Nat.le_of_ble_eq_true rfl) (Nat.le_of_ble_eq_true rfl) (show decode mX7_pricking.2.1 73 = .ok (.invokevirtual 320, 3) by decide +kernel) hd hR (fun r9 h1 hq => ?_)
    obtain ⟨r2, rfl, hR⟩ := hq
    show xG _ _ _ 76 _ [.inl r2] _ _
    obtain ⟨hg, hR⟩ := hR
    refine x_if_ge (pc := 76) (tgt := 96) (show decode mX7_pricking.2.1 76 = .ok (.ifCond .ge 20, 3) by decide +kernel) (by decide) hg (fun hc => ?_) (fun hc => ?_)
    · replace hR := hR.1 hc
      refine x_iinc (pc := 96) (ls' := [some (.inr (.inr 0)), some (.inl (x1 + 1))]) (show decode mX7_pricking.2.1 96 = .ok (.iinc 1 1, 3) by decide +kernel) (by decide) rfl rfl ?_
      refine x_goto (pc := 99) (tgt := 60) (show decode mX7_pricking.2.1 99 = .ok (.goto (-39), 3) by decide +kernel) (by decide) ?_
      exact hR
    · replace hR := hR.2 hc
      refine x_aload_n (pc := 79) (show decode mX7_pricking.2.1 79 = .ok (.aload_n 0, 1) by decide +kernel) rfl rfl ?_
      refine x_getR (pc := 80) f7_12 rfl rfl (show decode mX7_pricking.2.1 80 = .ok (.getfield 12, 3) by decide +kernel) ?_
      refine x_aload_n (pc := 83) (show decode mX7_pricking.2.1 83 = .ok (.aload_n 0, 1) by decide +kernel) rfl rfl ?_
      refine x_getR (pc := 84) f7_35 rfl rfl (show decode mX7_pricking.2.1 84 = .ok (.getfield 35, 3) by decide +kernel) ?_
      refine x_callV (pc := 87) (As := [.inr (.inr 21)]) (rest := []) (lk7_314 rfl) im_X3_copyFrom sl_X3_copyFrom rfl rfl rfl (Nat.le_of_ble_eq_true rfl) (Nat.le_of_ble_eq_true rfl) (show decode mX7_pricking.2.1 87 = .ok (.invokevirtual 314, 3) by decide +kernel) hd hR (fun r9 h3 hq => ?_)
      obtain ⟨rfl, hR⟩ := hq
      show xG _ _ _ 90 _ [] _ _
      refine x_sipush (pc := 90) (n := (-300)) (show decode mX7_pricking.2.1 90 = .ok (.sipush (-300), 3) by decide +kernel) rfl ?_
      refine x_iload_n (pc := 93) (show decode mX7_pricking.2.1 93 = .ok (.iload_n 1, 1) by decide +kernel) rfl rfl ?_
      refine x_isub (pc := 94) (show decode mX7_pricking.2.1 94 = .ok (.isub, 1) by decide +kernel) ?_
      exact x_iret (pc := 95) rfl (show decode mX7_pricking.2.1 95 = .ok (.ireturn, 1) by decide +kernel) ⟨_, rfl, hR⟩
set_option maxRecDepth 4000 in
theorem sg_X7_list_0 {d : Nat} {x1 x2 : Int} {h : xH} {Q : Int → xH → Prop} (hd : 1 ≤ d)
    (hR : cB wdC (d - 1) mX4_isList [.inr (.inr 50), .inl x1] h (fun h1 => (inI x2) ∧ (x2 ≤ 30 → (inI x2) ∧ (0 ≤ x2 → cV wdC (d - 1) mX4_begin [.inr (.inr 50), .inl x1, .inl x2] h1 (fun h2 => Q 1 h2)) ∧ (x2 < 0 → Q (-14) h1)) ∧ (30 < x2 → Q (-2) h1)) (fun h1 => Q (-1) h1)) :
    gI wdC d mX7_list 0 [some (.inr (.inr 0)), some (.inl x1), some (.inl x2)] h Q := by
  unfold gI
  refine x_aload_n (pc := 0) (show decode mX7_list.2.1 0 = .ok (.aload_n 0, 1) by decide +kernel) rfl rfl ?_
  refine x_getR (pc := 1) f7_69 rfl rfl (show decode mX7_list.2.1 1 = .ok (.getfield 69, 3) by decide +kernel) ?_
  refine x_iload_n (pc := 4) (show decode mX7_list.2.1 4 = .ok (.iload_n 1, 1) by decide +kernel) rfl rfl ?_
  refine x_callV (pc := 5) (As := [.inl x1]) (rest := []) (lk7_285 rfl) im_X4_isList sl_X4_isList rfl rfl rfl (Nat.le_of_ble_eq_true rfl) (Nat.le_of_ble_eq_true rfl) (show decode mX7_list.2.1 5 = .ok (.invokevirtual 285, 3) by decide +kernel) hd hR (fun r9 h1 hq => ?_)
  obtain ⟨r8, rfl, hq⟩ := hq
  rcases hq with ⟨rfl, hR⟩ | ⟨rfl, hR⟩
  · show xG _ _ _ 8 _ [.inl 1] _ _
    refine x_if_ne (pc := 8) (tgt := 13) (show decode mX7_list.2.1 8 = .ok (.ifCond .ne 5, 3) by decide +kernel) (by decide) (by unfold inI; decide) (fun _ => ?_) (fun hc => absurd hc (by decide))
    refine x_iload_n (pc := 13) (show decode mX7_list.2.1 13 = .ok (.iload_n 2, 1) by decide +kernel) rfl rfl ?_
    refine x_bipush (pc := 14) (n := 30) (show decode mX7_list.2.1 14 = .ok (.bipush 30, 2) by decide +kernel) rfl ?_
    obtain ⟨hg, hR⟩ := hR
    refine x_icmp_le (pc := 16) (tgt := 22) (show decode mX7_list.2.1 16 = .ok (.if_icmp .le 6, 3) by decide +kernel) (by decide) ⟨hg, (by unfold inI; decide)⟩ (fun hc => ?_) (fun hc => ?_)
    · replace hR := hR.1 hc
      refine x_iload_n (pc := 22) (show decode mX7_list.2.1 22 = .ok (.iload_n 2, 1) by decide +kernel) rfl rfl ?_
      obtain ⟨hg, hR⟩ := hR
      refine x_if_ge (pc := 23) (tgt := 29) (show decode mX7_list.2.1 23 = .ok (.ifCond .ge 6, 3) by decide +kernel) (by decide) hg (fun hc => ?_) (fun hc => ?_)
      · replace hR := hR.1 hc
        refine x_aload_n (pc := 29) (show decode mX7_list.2.1 29 = .ok (.aload_n 0, 1) by decide +kernel) rfl rfl ?_
        refine x_getR (pc := 30) f7_69 rfl rfl (show decode mX7_list.2.1 30 = .ok (.getfield 69, 3) by decide +kernel) ?_
        refine x_iload_n (pc := 33) (show decode mX7_list.2.1 33 = .ok (.iload_n 1, 1) by decide +kernel) rfl rfl ?_
        refine x_iload_n (pc := 34) (show decode mX7_list.2.1 34 = .ok (.iload_n 2, 1) by decide +kernel) rfl rfl ?_
        refine x_callV (pc := 35) (As := [.inl x1, .inl x2]) (rest := []) (lk7_323 rfl) im_X4_begin sl_X4_begin rfl rfl rfl (Nat.le_of_ble_eq_true rfl) (Nat.le_of_ble_eq_true rfl) (show decode mX7_list.2.1 35 = .ok (.invokevirtual 323, 3) by decide +kernel) hd hR (fun r9 h2 hq => ?_)
        obtain ⟨rfl, hR⟩ := hq
        show xG _ _ _ 38 _ [] _ _
        refine x_iconst (pc := 38) (n := 1) (show decode mX7_list.2.1 38 = .ok (.iconst 1, 1) by decide +kernel) ?_
        exact x_iret (pc := 39) rfl (show decode mX7_list.2.1 39 = .ok (.ireturn, 1) by decide +kernel) ⟨_, rfl, hR⟩
      · replace hR := hR.2 hc
        refine x_bipush (pc := 26) (n := (-14)) (show decode mX7_list.2.1 26 = .ok (.bipush (-14), 2) by decide +kernel) rfl ?_
        exact x_iret (pc := 28) rfl (show decode mX7_list.2.1 28 = .ok (.ireturn, 1) by decide +kernel) ⟨_, rfl, hR⟩
    · replace hR := hR.2 hc
      refine x_bipush (pc := 19) (n := (-2)) (show decode mX7_list.2.1 19 = .ok (.bipush (-2), 2) by decide +kernel) rfl ?_
      exact x_iret (pc := 21) rfl (show decode mX7_list.2.1 21 = .ok (.ireturn, 1) by decide +kernel) ⟨_, rfl, hR⟩
  · show xG _ _ _ 8 _ [.inl 0] _ _
    refine x_if_ne (pc := 8) (tgt := 13) (show decode mX7_list.2.1 8 = .ok (.ifCond .ne 5, 3) by decide +kernel) (by decide) (by unfold inI; decide) (fun hc => absurd hc (by decide)) (fun _ => ?_)
    refine x_iconst (pc := 11) (n := (-1)) (show decode mX7_list.2.1 11 = .ok (.iconst (-1), 1) by decide +kernel) ?_
    exact x_iret (pc := 12) rfl (show decode mX7_list.2.1 12 = .ok (.ireturn, 1) by decide +kernel) ⟨_, rfl, hR⟩
set_option maxRecDepth 4000 in
theorem sg_X7_set_0 {d : Nat} {x1 x2 x3 : Int} {h : xH} {Q : Int → xH → Prop} (hd : 1 ≤ d)
    (hR : cB wdC (d - 1) mX4_isList [.inr (.inr 50), .inl x1] h (fun h1 => cB wdC (d - 1) mX4_holds [.inr (.inr 50), .inl x1] h1 (fun h2 => cB wdC (d - 1) mX4_hasPlace [.inr (.inr 50), .inl x1, .inl x2] h2 (fun h3 => cV wdC (d - 1) mX4_put [.inr (.inr 50), .inl x1, .inl x2, .inr (.inl x3)] h3 (fun h4 => Q 1 h4)) (fun h3 => Q (-13) h3)) (fun h2 => Q (-11) h2)) (fun h1 => Q (-1) h1)) :
    gI wdC d mX7_set 0 [some (.inr (.inr 0)), some (.inl x1), some (.inl x2), some (.inr (.inl x3)), none] h Q := by
  unfold gI
  refine x_aload_n (pc := 0) (show decode mX7_set.2.1 0 = .ok (.aload_n 0, 1) by decide +kernel) rfl rfl ?_
  refine x_getR (pc := 1) f7_69 rfl rfl (show decode mX7_set.2.1 1 = .ok (.getfield 69, 3) by decide +kernel) ?_
  refine x_iload_n (pc := 4) (show decode mX7_set.2.1 4 = .ok (.iload_n 1, 1) by decide +kernel) rfl rfl ?_
  refine x_callV (pc := 5) (As := [.inl x1]) (rest := []) (lk7_285 rfl) im_X4_isList sl_X4_isList rfl rfl rfl (Nat.le_of_ble_eq_true rfl) (Nat.le_of_ble_eq_true rfl) (show decode mX7_set.2.1 5 = .ok (.invokevirtual 285, 3) by decide +kernel) hd hR (fun r9 h1 hq => ?_)
  obtain ⟨r8, rfl, hq⟩ := hq
  rcases hq with ⟨rfl, hR⟩ | ⟨rfl, hR⟩
  · show xG _ _ _ 8 _ [.inl 1] _ _
    refine x_if_ne (pc := 8) (tgt := 13) (show decode mX7_set.2.1 8 = .ok (.ifCond .ne 5, 3) by decide +kernel) (by decide) (by unfold inI; decide) (fun _ => ?_) (fun hc => absurd hc (by decide))
    refine x_aload_n (pc := 13) (show decode mX7_set.2.1 13 = .ok (.aload_n 0, 1) by decide +kernel) rfl rfl ?_
    refine x_getR (pc := 14) f7_69 rfl rfl (show decode mX7_set.2.1 14 = .ok (.getfield 69, 3) by decide +kernel) ?_
    refine x_iload_n (pc := 17) (show decode mX7_set.2.1 17 = .ok (.iload_n 1, 1) by decide +kernel) rfl rfl ?_
    refine x_callV (pc := 18) (As := [.inl x1]) (rest := []) (lk7_288 rfl) im_X4_holds sl_X4_holds rfl rfl rfl (Nat.le_of_ble_eq_true rfl) (Nat.le_of_ble_eq_true rfl) (show decode mX7_set.2.1 18 = .ok (.invokevirtual 288, 3) by decide +kernel) hd hR (fun r9 h2 hq => ?_)
    obtain ⟨r8, rfl, hq⟩ := hq
    rcases hq with ⟨rfl, hR⟩ | ⟨rfl, hR⟩
    · show xG _ _ _ 21 _ [.inl 1] _ _
      refine x_if_ne (pc := 21) (tgt := 27) (show decode mX7_set.2.1 21 = .ok (.ifCond .ne 6, 3) by decide +kernel) (by decide) (by unfold inI; decide) (fun _ => ?_) (fun hc => absurd hc (by decide))
      refine x_aload_n (pc := 27) (show decode mX7_set.2.1 27 = .ok (.aload_n 0, 1) by decide +kernel) rfl rfl ?_
      refine x_getR (pc := 28) f7_69 rfl rfl (show decode mX7_set.2.1 28 = .ok (.getfield 69, 3) by decide +kernel) ?_
      refine x_iload_n (pc := 31) (show decode mX7_set.2.1 31 = .ok (.iload_n 1, 1) by decide +kernel) rfl rfl ?_
      refine x_iload_n (pc := 32) (show decode mX7_set.2.1 32 = .ok (.iload_n 2, 1) by decide +kernel) rfl rfl ?_
      refine x_callV (pc := 33) (As := [.inl x1, .inl x2]) (rest := []) (lk7_326 rfl) im_X4_hasPlace sl_X4_hasPlace rfl rfl rfl (Nat.le_of_ble_eq_true rfl) (Nat.le_of_ble_eq_true rfl) (show decode mX7_set.2.1 33 = .ok (.invokevirtual 326, 3) by decide +kernel) hd hR (fun r9 h3 hq => ?_)
      obtain ⟨r8, rfl, hq⟩ := hq
      rcases hq with ⟨rfl, hR⟩ | ⟨rfl, hR⟩
      · show xG _ _ _ 36 _ [.inl 1] _ _
        refine x_if_ne (pc := 36) (tgt := 42) (show decode mX7_set.2.1 36 = .ok (.ifCond .ne 6, 3) by decide +kernel) (by decide) (by unfold inI; decide) (fun _ => ?_) (fun hc => absurd hc (by decide))
        refine x_aload_n (pc := 42) (show decode mX7_set.2.1 42 = .ok (.aload_n 0, 1) by decide +kernel) rfl rfl ?_
        refine x_getR (pc := 43) f7_69 rfl rfl (show decode mX7_set.2.1 43 = .ok (.getfield 69, 3) by decide +kernel) ?_
        refine x_iload_n (pc := 46) (show decode mX7_set.2.1 46 = .ok (.iload_n 1, 1) by decide +kernel) rfl rfl ?_
        refine x_iload_n (pc := 47) (show decode mX7_set.2.1 47 = .ok (.iload_n 2, 1) by decide +kernel) rfl rfl ?_
        refine x_lload_n (pc := 48) (show decode mX7_set.2.1 48 = .ok (.lload_n 3, 1) by decide +kernel) rfl rfl ?_
        refine x_callV (pc := 49) (As := [.inl x1, .inl x2, .inr (.inl x3)]) (rest := []) (lk7_294 rfl) im_X4_put sl_X4_put rfl rfl rfl (Nat.le_of_ble_eq_true rfl) (Nat.le_of_ble_eq_true rfl) (show decode mX7_set.2.1 49 = .ok (.invokevirtual 294, 3) by decide +kernel) hd hR (fun r9 h4 hq => ?_)
        obtain ⟨rfl, hR⟩ := hq
        show xG _ _ _ 52 _ [] _ _
        refine x_iconst (pc := 52) (n := 1) (show decode mX7_set.2.1 52 = .ok (.iconst 1, 1) by decide +kernel) ?_
        exact x_iret (pc := 53) rfl (show decode mX7_set.2.1 53 = .ok (.ireturn, 1) by decide +kernel) ⟨_, rfl, hR⟩
      · show xG _ _ _ 36 _ [.inl 0] _ _
        refine x_if_ne (pc := 36) (tgt := 42) (show decode mX7_set.2.1 36 = .ok (.ifCond .ne 6, 3) by decide +kernel) (by decide) (by unfold inI; decide) (fun hc => absurd hc (by decide)) (fun _ => ?_)
        refine x_bipush (pc := 39) (n := (-13)) (show decode mX7_set.2.1 39 = .ok (.bipush (-13), 2) by decide +kernel) rfl ?_
        exact x_iret (pc := 41) rfl (show decode mX7_set.2.1 41 = .ok (.ireturn, 1) by decide +kernel) ⟨_, rfl, hR⟩
    · show xG _ _ _ 21 _ [.inl 0] _ _
      refine x_if_ne (pc := 21) (tgt := 27) (show decode mX7_set.2.1 21 = .ok (.ifCond .ne 6, 3) by decide +kernel) (by decide) (by unfold inI; decide) (fun hc => absurd hc (by decide)) (fun _ => ?_)
      refine x_bipush (pc := 24) (n := (-11)) (show decode mX7_set.2.1 24 = .ok (.bipush (-11), 2) by decide +kernel) rfl ?_
      exact x_iret (pc := 26) rfl (show decode mX7_set.2.1 26 = .ok (.ireturn, 1) by decide +kernel) ⟨_, rfl, hR⟩
  · show xG _ _ _ 8 _ [.inl 0] _ _
    refine x_if_ne (pc := 8) (tgt := 13) (show decode mX7_set.2.1 8 = .ok (.ifCond .ne 5, 3) by decide +kernel) (by decide) (by unfold inI; decide) (fun hc => absurd hc (by decide)) (fun _ => ?_)
    refine x_iconst (pc := 11) (n := (-1)) (show decode mX7_set.2.1 11 = .ok (.iconst (-1), 1) by decide +kernel) ?_
    exact x_iret (pc := 12) rfl (show decode mX7_set.2.1 12 = .ok (.ireturn, 1) by decide +kernel) ⟨_, rfl, hR⟩
set_option maxRecDepth 4000 in
theorem sg_X7_get_0 {d : Nat} {x1 x2 : Int} {h : xH} {Q : Int → xH → Prop} (hd : 1 ≤ d)
    (hR : cB wdC (d - 1) mX4_isList [.inr (.inr 50), .inl x1] h (fun h1 => cB wdC (d - 1) mX4_hasPlace [.inr (.inr 50), .inl x1, .inl x2] h1 (fun h2 => cL wdC (d - 1) mX4_at [.inr (.inr 50), .inl x1, .inl x2] h2 (fun r4 h3 => Q r4 h3)) (fun h2 => Q (-9223372036854775808) h2)) (fun h1 => Q (-9223372036854775808) h1)) :
    gL wdC d mX7_get 0 [some (.inr (.inr 0)), some (.inl x1), some (.inl x2)] h Q := by
  unfold gL
  refine x_aload_n (pc := 0) (show decode mX7_get.2.1 0 = .ok (.aload_n 0, 1) by decide +kernel) rfl rfl ?_
  refine x_getR (pc := 1) f7_69 rfl rfl (show decode mX7_get.2.1 1 = .ok (.getfield 69, 3) by decide +kernel) ?_
  refine x_iload_n (pc := 4) (show decode mX7_get.2.1 4 = .ok (.iload_n 1, 1) by decide +kernel) rfl rfl ?_
  refine x_callV (pc := 5) (As := [.inl x1]) (rest := []) (lk7_285 rfl) im_X4_isList sl_X4_isList rfl rfl rfl (Nat.le_of_ble_eq_true rfl) (Nat.le_of_ble_eq_true rfl) (show decode mX7_get.2.1 5 = .ok (.invokevirtual 285, 3) by decide +kernel) hd hR (fun r9 h1 hq => ?_)
  obtain ⟨r8, rfl, hq⟩ := hq
  rcases hq with ⟨rfl, hR⟩ | ⟨rfl, hR⟩
  · show xG _ _ _ 8 _ [.inl 1] _ _
    refine x_if_eq (pc := 8) (tgt := 23) (show decode mX7_get.2.1 8 = .ok (.ifCond .eq 15, 3) by decide +kernel) (by decide) (by unfold inI; decide) (fun hc => absurd hc (by decide)) (fun _ => ?_)
    refine x_aload_n (pc := 11) (show decode mX7_get.2.1 11 = .ok (.aload_n 0, 1) by decide +kernel) rfl rfl ?_
    refine x_getR (pc := 12) f7_69 rfl rfl (show decode mX7_get.2.1 12 = .ok (.getfield 69, 3) by decide +kernel) ?_
    refine x_iload_n (pc := 15) (show decode mX7_get.2.1 15 = .ok (.iload_n 1, 1) by decide +kernel) rfl rfl ?_
    refine x_iload_n (pc := 16) (show decode mX7_get.2.1 16 = .ok (.iload_n 2, 1) by decide +kernel) rfl rfl ?_
    refine x_callV (pc := 17) (As := [.inl x1, .inl x2]) (rest := []) (lk7_326 rfl) im_X4_hasPlace sl_X4_hasPlace rfl rfl rfl (Nat.le_of_ble_eq_true rfl) (Nat.le_of_ble_eq_true rfl) (show decode mX7_get.2.1 17 = .ok (.invokevirtual 326, 3) by decide +kernel) hd hR (fun r9 h2 hq => ?_)
    obtain ⟨r8, rfl, hq⟩ := hq
    rcases hq with ⟨rfl, hR⟩ | ⟨rfl, hR⟩
    · show xG _ _ _ 20 _ [.inl 1] _ _
      refine x_if_ne (pc := 20) (tgt := 27) (show decode mX7_get.2.1 20 = .ok (.ifCond .ne 7, 3) by decide +kernel) (by decide) (by unfold inI; decide) (fun _ => ?_) (fun hc => absurd hc (by decide))
      refine x_aload_n (pc := 27) (show decode mX7_get.2.1 27 = .ok (.aload_n 0, 1) by decide +kernel) rfl rfl ?_
      refine x_getR (pc := 28) f7_69 rfl rfl (show decode mX7_get.2.1 28 = .ok (.getfield 69, 3) by decide +kernel) ?_
      refine x_iload_n (pc := 31) (show decode mX7_get.2.1 31 = .ok (.iload_n 1, 1) by decide +kernel) rfl rfl ?_
      refine x_iload_n (pc := 32) (show decode mX7_get.2.1 32 = .ok (.iload_n 2, 1) by decide +kernel) rfl rfl ?_
      refine x_callV (pc := 33) (As := [.inl x1, .inl x2]) (rest := []) (lk7_329 rfl) im_X4_at sl_X4_at rfl rfl rfl (Nat.le_of_ble_eq_true rfl) (Nat.le_of_ble_eq_true rfl) (show decode mX7_get.2.1 33 = .ok (.invokevirtual 329, 3) by decide +kernel) hd hR (fun r9 h3 hq => ?_)
      obtain ⟨r4, rfl, hR⟩ := hq
      show xG _ _ _ 36 _ [.inr (.inl r4)] _ _
      exact x_lret (pc := 36) rfl (show decode mX7_get.2.1 36 = .ok (.lreturn, 1) by decide +kernel) ⟨_, rfl, hR⟩
    · show xG _ _ _ 20 _ [.inl 0] _ _
      refine x_if_ne (pc := 20) (tgt := 27) (show decode mX7_get.2.1 20 = .ok (.ifCond .ne 7, 3) by decide +kernel) (by decide) (by unfold inI; decide) (fun hc => absurd hc (by decide)) (fun _ => ?_)
      refine x_ldc2 (pc := 23) (n := (-9223372036854775808)) (tblG_m2 235 rfl rfl) rfl (show decode mX7_get.2.1 23 = .ok (.ldc2_w 153, 3) by decide +kernel) ?_
      exact x_lret (pc := 26) rfl (show decode mX7_get.2.1 26 = .ok (.lreturn, 1) by decide +kernel) ⟨_, rfl, hR⟩
  · show xG _ _ _ 8 _ [.inl 0] _ _
    refine x_if_eq (pc := 8) (tgt := 23) (show decode mX7_get.2.1 8 = .ok (.ifCond .eq 15, 3) by decide +kernel) (by decide) (by unfold inI; decide) (fun _ => ?_) (fun hc => absurd hc (by decide))
    refine x_ldc2 (pc := 23) (n := (-9223372036854775808)) (tblG_m2 235 rfl rfl) rfl (show decode mX7_get.2.1 23 = .ok (.ldc2_w 153, 3) by decide +kernel) ?_
    exact x_lret (pc := 26) rfl (show decode mX7_get.2.1 26 = .ok (.lreturn, 1) by decide +kernel) ⟨_, rfl, hR⟩
set_option maxRecDepth 4000 in
theorem sg_X7_count_0 {d : Nat} {x1 : Int} {h : xH} {Q : Int → xH → Prop} (hd : 1 ≤ d)
    (hR : inI x1 ∧ (x1 = 0 → Q (h 1 0) h) ∧ (x1 = 1 → Q (h 1 2) h) ∧ (x1 = 2 → Q (h 1 6) h) ∧ (x1 = 3 → Q (h 6 3) h) ∧ (x1 = 4 → Q (h 44 1) h) ∧ (x1 = 5 → Q (h 0 12) h) ∧ (x1 = 6 → Q (h 6 6) h) ∧ (x1 = 7 → cI wdC (d - 1) mX3_turnsInto [.inr (.inr 1), .inl 1] h (fun r2 h1 => Q r2 h1)) ∧ (x1 = 8 → cI wdC (d - 1) mX3_turnsInto [.inr (.inr 1), .inl 0] h (fun r4 h3 => Q r4 h3)) ∧ ((x1 < 0 ∨ 8 < x1) → Q (-1) h)) :
    gI wdC d mX7_count 0 [some (.inr (.inr 0)), some (.inl x1)] h Q := by
  unfold gI
  refine x_iload_n (pc := 0) (show decode mX7_count.2.1 0 = .ok (.iload_n 1, 1) by decide +kernel) rfl rfl ?_
  obtain ⟨hg, hR⟩ := hR
  rcases (show x1 = 0 ∨ x1 = 1 ∨ x1 = 2 ∨ x1 = 3 ∨ x1 = 4 ∨ x1 = 5 ∨ x1 = 6 ∨ x1 = 7 ∨ x1 = 8 ∨ (x1 < 0 ∨ 8 < x1) by omega) with hc | hc | hc | hc | hc | hc | hc | hc | hc | hc
  · replace hR := hR.1 hc
    refine x_tswAt (pc := 1) (n := 0) (tgt := 52) (show decode mX7_count.2.1 1 = .ok (.tableswitch 122 0 8 #[51, 59, 67, 75, 83, 91, 96, 104, 113], 51) by decide +kernel) hg hc (by decide) rfl (by decide) ?_
    refine x_aload_n (pc := 52) (show decode mX7_count.2.1 52 = .ok (.aload_n 0, 1) by decide +kernel) rfl rfl ?_
    refine x_getR (pc := 53) f7_12 rfl rfl (show decode mX7_count.2.1 53 = .ok (.getfield 12, 3) by decide +kernel) ?_
    refine x_getI (pc := 56) (ki := 0) f7_86 rfl rfl (by decide) rfl (show decode mX7_count.2.1 56 = .ok (.getfield 86, 3) by decide +kernel) ?_
    exact x_iret (pc := 59) rfl (show decode mX7_count.2.1 59 = .ok (.ireturn, 1) by decide +kernel) ⟨_, rfl, hR⟩
  · replace hR := hR.2.1 hc
    refine x_tswAt (pc := 1) (n := 1) (tgt := 60) (show decode mX7_count.2.1 1 = .ok (.tableswitch 122 0 8 #[51, 59, 67, 75, 83, 91, 96, 104, 113], 51) by decide +kernel) hg hc (by decide) rfl (by decide) ?_
    refine x_aload_n (pc := 60) (show decode mX7_count.2.1 60 = .ok (.aload_n 0, 1) by decide +kernel) rfl rfl ?_
    refine x_getR (pc := 61) f7_12 rfl rfl (show decode mX7_count.2.1 61 = .ok (.getfield 12, 3) by decide +kernel) ?_
    refine x_getI (pc := 64) (ki := 2) f7_107 rfl rfl (by decide) rfl (show decode mX7_count.2.1 64 = .ok (.getfield 107, 3) by decide +kernel) ?_
    exact x_iret (pc := 67) rfl (show decode mX7_count.2.1 67 = .ok (.ireturn, 1) by decide +kernel) ⟨_, rfl, hR⟩
  · replace hR := hR.2.2.1 hc
    refine x_tswAt (pc := 1) (n := 2) (tgt := 68) (show decode mX7_count.2.1 1 = .ok (.tableswitch 122 0 8 #[51, 59, 67, 75, 83, 91, 96, 104, 113], 51) by decide +kernel) hg hc (by decide) rfl (by decide) ?_
    refine x_aload_n (pc := 68) (show decode mX7_count.2.1 68 = .ok (.aload_n 0, 1) by decide +kernel) rfl rfl ?_
    refine x_getR (pc := 69) f7_12 rfl rfl (show decode mX7_count.2.1 69 = .ok (.getfield 12, 3) by decide +kernel) ?_
    refine x_getI (pc := 72) (ki := 6) f7_332 rfl rfl (by decide) rfl (show decode mX7_count.2.1 72 = .ok (.getfield 332, 3) by decide +kernel) ?_
    exact x_iret (pc := 75) rfl (show decode mX7_count.2.1 75 = .ok (.ireturn, 1) by decide +kernel) ⟨_, rfl, hR⟩
  · replace hR := hR.2.2.2.1 hc
    refine x_tswAt (pc := 1) (n := 3) (tgt := 76) (show decode mX7_count.2.1 1 = .ok (.tableswitch 122 0 8 #[51, 59, 67, 75, 83, 91, 96, 104, 113], 51) by decide +kernel) hg hc (by decide) rfl (by decide) ?_
    refine x_aload_n (pc := 76) (show decode mX7_count.2.1 76 = .ok (.aload_n 0, 1) by decide +kernel) rfl rfl ?_
    refine x_getR (pc := 77) f7_21 rfl rfl (show decode mX7_count.2.1 77 = .ok (.getfield 21, 3) by decide +kernel) ?_
    refine x_getI (pc := 80) (ki := 3) f7_196 rfl rfl (by decide) rfl (show decode mX7_count.2.1 80 = .ok (.getfield 196, 3) by decide +kernel) ?_
    exact x_iret (pc := 83) rfl (show decode mX7_count.2.1 83 = .ok (.ireturn, 1) by decide +kernel) ⟨_, rfl, hR⟩
  · replace hR := hR.2.2.2.2.1 hc
    refine x_tswAt (pc := 1) (n := 4) (tgt := 84) (show decode mX7_count.2.1 1 = .ok (.tableswitch 122 0 8 #[51, 59, 67, 75, 83, 91, 96, 104, 113], 51) by decide +kernel) hg hc (by decide) rfl (by decide) ?_
    refine x_aload_n (pc := 84) (show decode mX7_count.2.1 84 = .ok (.aload_n 0, 1) by decide +kernel) rfl rfl ?_
    refine x_getR (pc := 85) f7_62 rfl rfl (show decode mX7_count.2.1 85 = .ok (.getfield 62, 3) by decide +kernel) ?_
    refine x_getI (pc := 88) (ki := 1) f7_305 rfl rfl (by decide) rfl (show decode mX7_count.2.1 88 = .ok (.getfield 305, 3) by decide +kernel) ?_
    exact x_iret (pc := 91) rfl (show decode mX7_count.2.1 91 = .ok (.ireturn, 1) by decide +kernel) ⟨_, rfl, hR⟩
  · replace hR := hR.2.2.2.2.2.1 hc
    refine x_tswAt (pc := 1) (n := 5) (tgt := 92) (show decode mX7_count.2.1 1 = .ok (.tableswitch 122 0 8 #[51, 59, 67, 75, 83, 91, 96, 104, 113], 51) by decide +kernel) hg hc (by decide) rfl (by decide) ?_
    refine x_aload_n (pc := 92) (show decode mX7_count.2.1 92 = .ok (.aload_n 0, 1) by decide +kernel) rfl rfl ?_
    refine x_getI (pc := 93) (ki := 12) f7_77 rfl rfl (by decide) rfl (show decode mX7_count.2.1 93 = .ok (.getfield 77, 3) by decide +kernel) ?_
    exact x_iret (pc := 96) rfl (show decode mX7_count.2.1 96 = .ok (.ireturn, 1) by decide +kernel) ⟨_, rfl, hR⟩
  · replace hR := hR.2.2.2.2.2.2.1 hc
    refine x_tswAt (pc := 1) (n := 6) (tgt := 97) (show decode mX7_count.2.1 1 = .ok (.tableswitch 122 0 8 #[51, 59, 67, 75, 83, 91, 96, 104, 113], 51) by decide +kernel) hg hc (by decide) rfl (by decide) ?_
    refine x_aload_n (pc := 97) (show decode mX7_count.2.1 97 = .ok (.aload_n 0, 1) by decide +kernel) rfl rfl ?_
    refine x_getR (pc := 98) f7_21 rfl rfl (show decode mX7_count.2.1 98 = .ok (.getfield 21, 3) by decide +kernel) ?_
    refine x_getI (pc := 101) (ki := 6) f7_223 rfl rfl (by decide) rfl (show decode mX7_count.2.1 101 = .ok (.getfield 223, 3) by decide +kernel) ?_
    exact x_iret (pc := 104) rfl (show decode mX7_count.2.1 104 = .ok (.ireturn, 1) by decide +kernel) ⟨_, rfl, hR⟩
  · replace hR := hR.2.2.2.2.2.2.2.1 hc
    refine x_tswAt (pc := 1) (n := 7) (tgt := 105) (show decode mX7_count.2.1 1 = .ok (.tableswitch 122 0 8 #[51, 59, 67, 75, 83, 91, 96, 104, 113], 51) by decide +kernel) hg hc (by decide) rfl (by decide) ?_
    refine x_aload_n (pc := 105) (show decode mX7_count.2.1 105 = .ok (.aload_n 0, 1) by decide +kernel) rfl rfl ?_
    refine x_getR (pc := 106) f7_12 rfl rfl (show decode mX7_count.2.1 106 = .ok (.getfield 12, 3) by decide +kernel) ?_
    refine x_iconst (pc := 109) (n := 1) (show decode mX7_count.2.1 109 = .ok (.iconst 1, 1) by decide +kernel) ?_
    refine x_callV (pc := 110) (As := [.inl 1]) (rest := []) (lk7_335 rfl) im_X3_turnsInto sl_X3_turnsInto rfl rfl rfl (Nat.le_of_ble_eq_true rfl) (Nat.le_of_ble_eq_true rfl) (show decode mX7_count.2.1 110 = .ok (.invokevirtual 335, 3) by decide +kernel) hd hR (fun r9 h1 hq => ?_)
    obtain ⟨r2, rfl, hR⟩ := hq
    show xG _ _ _ 113 _ [.inl r2] _ _
    exact x_iret (pc := 113) rfl (show decode mX7_count.2.1 113 = .ok (.ireturn, 1) by decide +kernel) ⟨_, rfl, hR⟩
  · replace hR := hR.2.2.2.2.2.2.2.2.1 hc
    refine x_tswAt (pc := 1) (n := 8) (tgt := 114) (show decode mX7_count.2.1 1 = .ok (.tableswitch 122 0 8 #[51, 59, 67, 75, 83, 91, 96, 104, 113], 51) by decide +kernel) hg hc (by decide) rfl (by decide) ?_
    refine x_aload_n (pc := 114) (show decode mX7_count.2.1 114 = .ok (.aload_n 0, 1) by decide +kernel) rfl rfl ?_
    refine x_getR (pc := 115) f7_12 rfl rfl (show decode mX7_count.2.1 115 = .ok (.getfield 12, 3) by decide +kernel) ?_
    refine x_iconst (pc := 118) (n := 0) (show decode mX7_count.2.1 118 = .ok (.iconst 0, 1) by decide +kernel) ?_
    refine x_callV (pc := 119) (As := [.inl 0]) (rest := []) (lk7_335 rfl) im_X3_turnsInto sl_X3_turnsInto rfl rfl rfl (Nat.le_of_ble_eq_true rfl) (Nat.le_of_ble_eq_true rfl) (show decode mX7_count.2.1 119 = .ok (.invokevirtual 335, 3) by decide +kernel) hd hR (fun r9 h3 hq => ?_)
    obtain ⟨r4, rfl, hR⟩ := hq
    show xG _ _ _ 122 _ [.inl r4] _ _
    exact x_iret (pc := 122) rfl (show decode mX7_count.2.1 122 = .ok (.ireturn, 1) by decide +kernel) ⟨_, rfl, hR⟩
  · replace hR := hR.2.2.2.2.2.2.2.2.2 hc
    refine x_tswOut (pc := 1) (tgt := 123) (show decode mX7_count.2.1 1 = .ok (.tableswitch 122 0 8 #[51, 59, 67, 75, 83, 91, 96, 104, 113], 51) by decide +kernel) hg hc (by decide) ?_
    refine x_iconst (pc := 123) (n := (-1)) (show decode mX7_count.2.1 123 = .ok (.iconst (-1), 1) by decide +kernel) ?_
    exact x_iret (pc := 124) rfl (show decode mX7_count.2.1 124 = .ok (.ireturn, 1) by decide +kernel) ⟨_, rfl, hR⟩
set_option maxRecDepth 4000 in
theorem sg_X7_image_0 {d : Nat} {h : xH} {Q : Int → xH → Prop} (hd : 1 ≤ d)
    (hR : cV wdC (d - 1) mX3_copyFrom [.inr (.inr 11), .inr (.inr 1)] h (fun h1 => cV wdC (d - 1) mX0_copyFrom [.inr (.inr 16), .inr (.inr 6)] h1 (fun h2 => Q (h2 1 2) (xu h2 0 4 1)))) :
    gI wdC d mX7_image 0 [some (.inr (.inr 0))] h Q := by
  unfold gI
  refine x_aload_n (pc := 0) (show decode mX7_image.2.1 0 = .ok (.aload_n 0, 1) by decide +kernel) rfl rfl ?_
  refine x_getR (pc := 1) f7_25 rfl rfl (show decode mX7_image.2.1 1 = .ok (.getfield 25, 3) by decide +kernel) ?_
  refine x_aload_n (pc := 4) (show decode mX7_image.2.1 4 = .ok (.aload_n 0, 1) by decide +kernel) rfl rfl ?_
  refine x_getR (pc := 5) f7_12 rfl rfl (show decode mX7_image.2.1 5 = .ok (.getfield 12, 3) by decide +kernel) ?_
  refine x_callV (pc := 8) (As := [.inr (.inr 1)]) (rest := []) (lk7_314 rfl) im_X3_copyFrom sl_X3_copyFrom rfl rfl rfl (Nat.le_of_ble_eq_true rfl) (Nat.le_of_ble_eq_true rfl) (show decode mX7_image.2.1 8 = .ok (.invokevirtual 314, 3) by decide +kernel) hd hR (fun r9 h1 hq => ?_)
  obtain ⟨rfl, hR⟩ := hq
  show xG _ _ _ 11 _ [] _ _
  refine x_aload_n (pc := 11) (show decode mX7_image.2.1 11 = .ok (.aload_n 0, 1) by decide +kernel) rfl rfl ?_
  refine x_getR (pc := 12) f7_28 rfl rfl (show decode mX7_image.2.1 12 = .ok (.getfield 28, 3) by decide +kernel) ?_
  refine x_aload_n (pc := 15) (show decode mX7_image.2.1 15 = .ok (.aload_n 0, 1) by decide +kernel) rfl rfl ?_
  refine x_getR (pc := 16) f7_21 rfl rfl (show decode mX7_image.2.1 16 = .ok (.getfield 21, 3) by decide +kernel) ?_
  refine x_callV (pc := 19) (As := [.inr (.inr 6)]) (rest := []) (lk7_339 rfl) im_X0_copyFrom sl_X0_copyFrom rfl rfl rfl (Nat.le_of_ble_eq_true rfl) (Nat.le_of_ble_eq_true rfl) (show decode mX7_image.2.1 19 = .ok (.invokevirtual 339, 3) by decide +kernel) hd hR (fun r9 h2 hq => ?_)
  obtain ⟨rfl, hR⟩ := hq
  show xG _ _ _ 22 _ [] _ _
  refine x_aload_n (pc := 22) (show decode mX7_image.2.1 22 = .ok (.aload_n 0, 1) by decide +kernel) rfl rfl ?_
  refine x_iconst (pc := 23) (n := 1) (show decode mX7_image.2.1 23 = .ok (.iconst 1, 1) by decide +kernel) ?_
  refine x_putZ (pc := 24) (ki := 4) f7_31 fp7_4 rfl rfl rfl (by decide) (show decode mX7_image.2.1 24 = .ok (.putfield 31, 3) by decide +kernel) ?_
  refine x_aload_n (pc := 27) (show decode mX7_image.2.1 27 = .ok (.aload_n 0, 1) by decide +kernel) rfl rfl ?_
  refine x_getR (pc := 28) f7_12 rfl rfl (show decode mX7_image.2.1 28 = .ok (.getfield 12, 3) by decide +kernel) ?_
  refine x_getI (pc := 31) (ki := 2) f7_107 rfl rfl (by decide) rfl (show decode mX7_image.2.1 31 = .ok (.getfield 107, 3) by decide +kernel) ?_
  exact x_iret (pc := 34) rfl (show decode mX7_image.2.1 34 = .ok (.ireturn, 1) by decide +kernel) ⟨_, rfl, hR⟩
set_option maxRecDepth 4000 in
theorem sg_X7_restore_0 {d : Nat} {h : xH} {Q : Int → xH → Prop} (hd : 1 ≤ d)
    (hR : (inI (h 0 4)) ∧ (¬ (h 0 4) = 0 → cV wdC (d - 1) mX3_copyFrom [.inr (.inr 1), .inr (.inr 11)] h (fun h1 => cV wdC (d - 1) mX0_copyFrom [.inr (.inr 6), .inr (.inr 16)] h1 (fun h2 => Q (h2 1 2) h2))) ∧ ((h 0 4) = 0 → Q (-3) h)) :
    gI wdC d mX7_restore 0 [some (.inr (.inr 0))] h Q := by
  unfold gI
  refine x_aload_n (pc := 0) (show decode mX7_restore.2.1 0 = .ok (.aload_n 0, 1) by decide +kernel) rfl rfl ?_
  refine x_getI (pc := 1) (ki := 4) f7_31 rfl rfl (by decide) rfl (show decode mX7_restore.2.1 1 = .ok (.getfield 31, 3) by decide +kernel) ?_
  obtain ⟨hg, hR⟩ := hR
  refine x_if_ne (pc := 4) (tgt := 10) (show decode mX7_restore.2.1 4 = .ok (.ifCond .ne 6, 3) by decide +kernel) (by decide) hg (fun hc => ?_) (fun hc => ?_)
  · replace hR := hR.1 hc
    refine x_aload_n (pc := 10) (show decode mX7_restore.2.1 10 = .ok (.aload_n 0, 1) by decide +kernel) rfl rfl ?_
    refine x_getR (pc := 11) f7_12 rfl rfl (show decode mX7_restore.2.1 11 = .ok (.getfield 12, 3) by decide +kernel) ?_
    refine x_aload_n (pc := 14) (show decode mX7_restore.2.1 14 = .ok (.aload_n 0, 1) by decide +kernel) rfl rfl ?_
    refine x_getR (pc := 15) f7_25 rfl rfl (show decode mX7_restore.2.1 15 = .ok (.getfield 25, 3) by decide +kernel) ?_
    refine x_callV (pc := 18) (As := [.inr (.inr 11)]) (rest := []) (lk7_314 rfl) im_X3_copyFrom sl_X3_copyFrom rfl rfl rfl (Nat.le_of_ble_eq_true rfl) (Nat.le_of_ble_eq_true rfl) (show decode mX7_restore.2.1 18 = .ok (.invokevirtual 314, 3) by decide +kernel) hd hR (fun r9 h1 hq => ?_)
    obtain ⟨rfl, hR⟩ := hq
    show xG _ _ _ 21 _ [] _ _
    refine x_aload_n (pc := 21) (show decode mX7_restore.2.1 21 = .ok (.aload_n 0, 1) by decide +kernel) rfl rfl ?_
    refine x_getR (pc := 22) f7_21 rfl rfl (show decode mX7_restore.2.1 22 = .ok (.getfield 21, 3) by decide +kernel) ?_
    refine x_aload_n (pc := 25) (show decode mX7_restore.2.1 25 = .ok (.aload_n 0, 1) by decide +kernel) rfl rfl ?_
    refine x_getR (pc := 26) f7_28 rfl rfl (show decode mX7_restore.2.1 26 = .ok (.getfield 28, 3) by decide +kernel) ?_
    refine x_callV (pc := 29) (As := [.inr (.inr 16)]) (rest := []) (lk7_339 rfl) im_X0_copyFrom sl_X0_copyFrom rfl rfl rfl (Nat.le_of_ble_eq_true rfl) (Nat.le_of_ble_eq_true rfl) (show decode mX7_restore.2.1 29 = .ok (.invokevirtual 339, 3) by decide +kernel) hd hR (fun r9 h2 hq => ?_)
    obtain ⟨rfl, hR⟩ := hq
    show xG _ _ _ 32 _ [] _ _
    refine x_aload_n (pc := 32) (show decode mX7_restore.2.1 32 = .ok (.aload_n 0, 1) by decide +kernel) rfl rfl ?_
    refine x_getR (pc := 33) f7_12 rfl rfl (show decode mX7_restore.2.1 33 = .ok (.getfield 12, 3) by decide +kernel) ?_
    refine x_getI (pc := 36) (ki := 2) f7_107 rfl rfl (by decide) rfl (show decode mX7_restore.2.1 36 = .ok (.getfield 107, 3) by decide +kernel) ?_
    exact x_iret (pc := 39) rfl (show decode mX7_restore.2.1 39 = .ok (.ireturn, 1) by decide +kernel) ⟨_, rfl, hR⟩
  · replace hR := hR.2 hc
    refine x_bipush (pc := 7) (n := (-3)) (show decode mX7_restore.2.1 7 = .ok (.bipush (-3), 2) by decide +kernel) rfl ?_
    exact x_iret (pc := 9) rfl (show decode mX7_restore.2.1 9 = .ok (.ireturn, 1) by decide +kernel) ⟨_, rfl, hR⟩
set_option maxRecDepth 4000 in
theorem sg_X7_isRow_0 {d : Nat} {x0 : Int} {h : xH} {Q : Int → xH → Prop}
    (hR : (inI x0) ∧ (x0 < 0 → Q 0 h) ∧ (0 ≤ x0 → (inI x0) ∧ (100 ≤ x0 → Q 0 h) ∧ (x0 < 100 → Q 1 h))) :
    gI wdC d mX7_isRow 0 [some (.inl x0)] h Q := by
  unfold gI
  refine x_iload_n (pc := 0) (show decode mX7_isRow.2.1 0 = .ok (.iload_n 0, 1) by decide +kernel) rfl rfl ?_
  obtain ⟨hg, hR⟩ := hR
  refine x_if_lt (pc := 1) (tgt := 14) (show decode mX7_isRow.2.1 1 = .ok (.ifCond .lt 13, 3) by decide +kernel) (by decide) hg (fun hc => ?_) (fun hc => ?_)
  · replace hR := hR.1 hc
    refine x_iconst (pc := 14) (n := 0) (show decode mX7_isRow.2.1 14 = .ok (.iconst 0, 1) by decide +kernel) ?_
    exact x_zret (pc := 15) rfl (show decode mX7_isRow.2.1 15 = .ok (.ireturn, 1) by decide +kernel) (by decide) ⟨_, rfl, hR⟩
  · replace hR := hR.2 hc
    refine x_iload_n (pc := 4) (show decode mX7_isRow.2.1 4 = .ok (.iload_n 0, 1) by decide +kernel) rfl rfl ?_
    refine x_bipush (pc := 5) (n := 100) (show decode mX7_isRow.2.1 5 = .ok (.bipush 100, 2) by decide +kernel) rfl ?_
    obtain ⟨hg, hR⟩ := hR
    refine x_icmp_ge (pc := 7) (tgt := 14) (show decode mX7_isRow.2.1 7 = .ok (.if_icmp .ge 7, 3) by decide +kernel) (by decide) ⟨hg, (by unfold inI; decide)⟩ (fun hc => ?_) (fun hc => ?_)
    · replace hR := hR.1 hc
      refine x_iconst (pc := 14) (n := 0) (show decode mX7_isRow.2.1 14 = .ok (.iconst 0, 1) by decide +kernel) ?_
      exact x_zret (pc := 15) rfl (show decode mX7_isRow.2.1 15 = .ok (.ireturn, 1) by decide +kernel) (by decide) ⟨_, rfl, hR⟩
    · replace hR := hR.2 hc
      refine x_iconst (pc := 10) (n := 1) (show decode mX7_isRow.2.1 10 = .ok (.iconst 1, 1) by decide +kernel) ?_
      refine x_goto (pc := 11) (tgt := 15) (show decode mX7_isRow.2.1 11 = .ok (.goto 4, 3) by decide +kernel) (by decide) ?_
      exact x_zret (pc := 15) rfl (show decode mX7_isRow.2.1 15 = .ok (.ireturn, 1) by decide +kernel) (by decide) ⟨_, rfl, hR⟩
set_option maxRecDepth 4000 in
theorem sg_X7_isStitch_0 {d : Nat} {x0 : Int} {h : xH} {Q : Int → xH → Prop}
    (hR : (inI x0) ∧ (x0 < 0 → Q 0 h) ∧ (0 ≤ x0 → (inI x0) ∧ (5 ≤ x0 → Q 0 h) ∧ (x0 < 5 → Q 1 h))) :
    gI wdC d mX7_isStitch 0 [some (.inl x0)] h Q := by
  unfold gI
  refine x_iload_n (pc := 0) (show decode mX7_isStitch.2.1 0 = .ok (.iload_n 0, 1) by decide +kernel) rfl rfl ?_
  obtain ⟨hg, hR⟩ := hR
  refine x_if_lt (pc := 1) (tgt := 13) (show decode mX7_isStitch.2.1 1 = .ok (.ifCond .lt 12, 3) by decide +kernel) (by decide) hg (fun hc => ?_) (fun hc => ?_)
  · replace hR := hR.1 hc
    refine x_iconst (pc := 13) (n := 0) (show decode mX7_isStitch.2.1 13 = .ok (.iconst 0, 1) by decide +kernel) ?_
    exact x_zret (pc := 14) rfl (show decode mX7_isStitch.2.1 14 = .ok (.ireturn, 1) by decide +kernel) (by decide) ⟨_, rfl, hR⟩
  · replace hR := hR.2 hc
    refine x_iload_n (pc := 4) (show decode mX7_isStitch.2.1 4 = .ok (.iload_n 0, 1) by decide +kernel) rfl rfl ?_
    refine x_iconst (pc := 5) (n := 5) (show decode mX7_isStitch.2.1 5 = .ok (.iconst 5, 1) by decide +kernel) ?_
    obtain ⟨hg, hR⟩ := hR
    refine x_icmp_ge (pc := 6) (tgt := 13) (show decode mX7_isStitch.2.1 6 = .ok (.if_icmp .ge 7, 3) by decide +kernel) (by decide) ⟨hg, (by unfold inI; decide)⟩ (fun hc => ?_) (fun hc => ?_)
    · replace hR := hR.1 hc
      refine x_iconst (pc := 13) (n := 0) (show decode mX7_isStitch.2.1 13 = .ok (.iconst 0, 1) by decide +kernel) ?_
      exact x_zret (pc := 14) rfl (show decode mX7_isStitch.2.1 14 = .ok (.ireturn, 1) by decide +kernel) (by decide) ⟨_, rfl, hR⟩
    · replace hR := hR.2 hc
      refine x_iconst (pc := 9) (n := 1) (show decode mX7_isStitch.2.1 9 = .ok (.iconst 1, 1) by decide +kernel) ?_
      refine x_goto (pc := 10) (tgt := 14) (show decode mX7_isStitch.2.1 10 = .ok (.goto 4, 3) by decide +kernel) (by decide) ?_
      exact x_zret (pc := 14) rfl (show decode mX7_isStitch.2.1 14 = .ok (.ireturn, 1) by decide +kernel) (by decide) ⟨_, rfl, hR⟩
set_option maxRecDepth 4000 in
theorem sg_X7_isThread_0 {d : Nat} {x1 : Int} {h : xH} {Q : Int → xH → Prop}
    (hR : (inI x1) ∧ (x1 < 0 → Q 0 h) ∧ (0 ≤ x1 → (inI x1 ∧ inI (2 * (h 1 0))) ∧ ((2 * (h 1 0)) ≤ x1 → Q 0 h) ∧ (x1 < (2 * (h 1 0)) → Q 1 h))) :
    gI wdC d mX7_isThread 0 [some (.inr (.inr 0)), some (.inl x1)] h Q := by
  unfold gI
  refine x_iload_n (pc := 0) (show decode mX7_isThread.2.1 0 = .ok (.iload_n 1, 1) by decide +kernel) rfl rfl ?_
  obtain ⟨hg, hR⟩ := hR
  refine x_if_lt (pc := 1) (tgt := 21) (show decode mX7_isThread.2.1 1 = .ok (.ifCond .lt 20, 3) by decide +kernel) (by decide) hg (fun hc => ?_) (fun hc => ?_)
  · replace hR := hR.1 hc
    refine x_iconst (pc := 21) (n := 0) (show decode mX7_isThread.2.1 21 = .ok (.iconst 0, 1) by decide +kernel) ?_
    exact x_zret (pc := 22) rfl (show decode mX7_isThread.2.1 22 = .ok (.ireturn, 1) by decide +kernel) (by decide) ⟨_, rfl, hR⟩
  · replace hR := hR.2 hc
    refine x_iload_n (pc := 4) (show decode mX7_isThread.2.1 4 = .ok (.iload_n 1, 1) by decide +kernel) rfl rfl ?_
    refine x_iconst (pc := 5) (n := 2) (show decode mX7_isThread.2.1 5 = .ok (.iconst 2, 1) by decide +kernel) ?_
    refine x_aload_n (pc := 6) (show decode mX7_isThread.2.1 6 = .ok (.aload_n 0, 1) by decide +kernel) rfl rfl ?_
    refine x_getR (pc := 7) f7_12 rfl rfl (show decode mX7_isThread.2.1 7 = .ok (.getfield 12, 3) by decide +kernel) ?_
    refine x_getI (pc := 10) (ki := 0) f7_86 rfl rfl (by decide) rfl (show decode mX7_isThread.2.1 10 = .ok (.getfield 86, 3) by decide +kernel) ?_
    refine x_imul (pc := 13) (show decode mX7_isThread.2.1 13 = .ok (.imul, 1) by decide +kernel) ?_
    obtain ⟨hg, hR⟩ := hR
    refine x_icmp_ge (pc := 14) (tgt := 21) (show decode mX7_isThread.2.1 14 = .ok (.if_icmp .ge 7, 3) by decide +kernel) (by decide) ⟨hg.1, hg.2⟩ (fun hc => ?_) (fun hc => ?_)
    · replace hR := hR.1 hc
      refine x_iconst (pc := 21) (n := 0) (show decode mX7_isThread.2.1 21 = .ok (.iconst 0, 1) by decide +kernel) ?_
      exact x_zret (pc := 22) rfl (show decode mX7_isThread.2.1 22 = .ok (.ireturn, 1) by decide +kernel) (by decide) ⟨_, rfl, hR⟩
    · replace hR := hR.2 hc
      refine x_iconst (pc := 17) (n := 1) (show decode mX7_isThread.2.1 17 = .ok (.iconst 1, 1) by decide +kernel) ?_
      refine x_goto (pc := 18) (tgt := 22) (show decode mX7_isThread.2.1 18 = .ok (.goto 4, 3) by decide +kernel) (by decide) ?_
      exact x_zret (pc := 22) rfl (show decode mX7_isThread.2.1 22 = .ok (.ireturn, 1) by decide +kernel) (by decide) ⟨_, rfl, hR⟩
set_option maxRecDepth 4000 in
theorem sg_X7_pinBit_0 {d : Nat} {x0 : Int} {h : xH} {Q : Int → xH → Prop}
    (hR : (0 ≤ x0 ∧ x0 ≤ 63) ∧ Q (1 * 2 ^ (Int.toNat x0)) h) :
    gL wdC d mX7_pinBit 0 [some (.inl x0)] h Q := by
  unfold gL
  refine x_lconst (pc := 0) (v := 1) (show decode mX7_pinBit.2.1 0 = .ok (.lconst 1, 1) by decide +kernel) rfl ?_
  refine x_iload_n (pc := 1) (show decode mX7_pinBit.2.1 1 = .ok (.iload_n 0, 1) by decide +kernel) rfl rfl ?_
  obtain ⟨hg, hR⟩ := hR
  refine x_lshl (pc := 2) (show decode mX7_pinBit.2.1 2 = .ok (.lshl, 1) by decide +kernel) hg ?_
  exact x_lret (pc := 3) rfl (show decode mX7_pinBit.2.1 3 = .ok (.lreturn, 1) by decide +kernel) ⟨_, rfl, hR⟩
set_option maxRecDepth 4000 in
theorem sg_X7_hasPin_0 {d : Nat} {x0 x2 : Int} {h : xH} {Q : Int → xH → Prop} (hd : 1 ≤ d)
    (hR : cL wdC (d - 1) mX7_pinBit [.inl x2] h (fun r2 h1 => (inL (xandL x0 r2)) ∧ ((xandL x0 r2) = 0 → Q 0 h1) ∧ (¬ (xandL x0 r2) = 0 → Q 1 h1))) :
    gI wdC d mX7_hasPin 0 [some (.inr (.inl x0)), none, some (.inl x2)] h Q := by
  unfold gI
  refine x_lload_n (pc := 0) (show decode mX7_hasPin.2.1 0 = .ok (.lload_n 0, 1) by decide +kernel) rfl rfl ?_
  refine x_iload_n (pc := 1) (show decode mX7_hasPin.2.1 1 = .ok (.iload_n 2, 1) by decide +kernel) rfl rfl ?_
  refine x_callS (pc := 2) (As := [.inl x2]) (rest := [.inr (.inl x0)]) (lk7_342 rfl) sm_X7_pinBit (Nat.le_of_ble_eq_true rfl) (Nat.le_of_ble_eq_true rfl) (show decode mX7_hasPin.2.1 2 = .ok (.invokestatic 342, 3) by decide +kernel) hd hR (fun r9 h1 hq => ?_)
  obtain ⟨r2, rfl, hR⟩ := hq
  show xG _ _ _ 5 _ [.inr (.inl r2), .inr (.inl x0)] _ _
  refine x_land (pc := 5) (show decode mX7_hasPin.2.1 5 = .ok (.land, 1) by decide +kernel) ?_
  refine x_lconst (pc := 6) (v := 0) (show decode mX7_hasPin.2.1 6 = .ok (.lconst 0, 1) by decide +kernel) rfl ?_
  obtain ⟨hg, hR⟩ := hR
  refine x_lcmp (pc := 7) (show decode mX7_hasPin.2.1 7 = .ok (.lcmp, 1) by decide +kernel) ⟨hg, (by unfold inL; decide)⟩ ?_
  refine x_if_eq (pc := 8) (tgt := 15) (show decode mX7_hasPin.2.1 8 = .ok (.ifCond .eq 7, 3) by decide +kernel) (by decide) (xcmp_in _ _) (fun hc => ?_) (fun hc => ?_)
  · replace hR := hR.1 (xcmp_eq.mp hc)
    refine x_iconst (pc := 15) (n := 0) (show decode mX7_hasPin.2.1 15 = .ok (.iconst 0, 1) by decide +kernel) ?_
    exact x_zret (pc := 16) rfl (show decode mX7_hasPin.2.1 16 = .ok (.ireturn, 1) by decide +kernel) (by decide) ⟨_, rfl, hR⟩
  · replace hR := hR.2 (fun z => hc (xcmp_eq.mpr z))
    refine x_iconst (pc := 11) (n := 1) (show decode mX7_hasPin.2.1 11 = .ok (.iconst 1, 1) by decide +kernel) ?_
    refine x_goto (pc := 12) (tgt := 16) (show decode mX7_hasPin.2.1 12 = .ok (.goto 4, 3) by decide +kernel) (by decide) ?_
    exact x_zret (pc := 16) rfl (show decode mX7_hasPin.2.1 16 = .ok (.ireturn, 1) by decide +kernel) (by decide) ⟨_, rfl, hR⟩
set_option maxRecDepth 4000 in
theorem sg_X7_anyDone_0 {d : Nat} {h : xH} {Q : Int → xH → Prop}
    (hR : (inI (h 6 3)) ∧ ((h 6 3) ≤ 0 → Q 0 h) ∧ (0 < (h 6 3) → Q 1 h)) :
    gI wdC d mX7_anyDone 0 [some (.inr (.inr 0))] h Q := by
  unfold gI
  refine x_aload_n (pc := 0) (show decode mX7_anyDone.2.1 0 = .ok (.aload_n 0, 1) by decide +kernel) rfl rfl ?_
  refine x_getR (pc := 1) f7_21 rfl rfl (show decode mX7_anyDone.2.1 1 = .ok (.getfield 21, 3) by decide +kernel) ?_
  refine x_getI (pc := 4) (ki := 3) f7_196 rfl rfl (by decide) rfl (show decode mX7_anyDone.2.1 4 = .ok (.getfield 196, 3) by decide +kernel) ?_
  obtain ⟨hg, hR⟩ := hR
  refine x_if_le (pc := 7) (tgt := 14) (show decode mX7_anyDone.2.1 7 = .ok (.ifCond .le 7, 3) by decide +kernel) (by decide) hg (fun hc => ?_) (fun hc => ?_)
  · replace hR := hR.1 hc
    refine x_iconst (pc := 14) (n := 0) (show decode mX7_anyDone.2.1 14 = .ok (.iconst 0, 1) by decide +kernel) ?_
    exact x_zret (pc := 15) rfl (show decode mX7_anyDone.2.1 15 = .ok (.ireturn, 1) by decide +kernel) (by decide) ⟨_, rfl, hR⟩
  · replace hR := hR.2 hc
    refine x_iconst (pc := 10) (n := 1) (show decode mX7_anyDone.2.1 10 = .ok (.iconst 1, 1) by decide +kernel) ?_
    refine x_goto (pc := 11) (tgt := 15) (show decode mX7_anyDone.2.1 11 = .ok (.goto 4, 3) by decide +kernel) (by decide) ?_
    exact x_zret (pc := 15) rfl (show decode mX7_anyDone.2.1 15 = .ok (.ireturn, 1) by decide +kernel) (by decide) ⟨_, rfl, hR⟩
set_option maxRecDepth 4000 in
theorem sg_X7_depthOf_0 {d : Nat} {x1 : Int} {h : xH} {Q : Int → xH → Prop} (hd : 1 ≤ d)
    (hR : cV wdC (d - 1) mX2_study [.inr (.inr 26), .inr (.inr 1)] h (fun h1 => (0 ≤ x1 ∧ x1 < 30) ∧ Q (h1 29 x1) h1)) :
    gI wdC d mX7_depthOf 0 [some (.inr (.inr 0)), some (.inl x1)] h Q := by
  unfold gI
  refine x_aload_n (pc := 0) (show decode mX7_depthOf.2.1 0 = .ok (.aload_n 0, 1) by decide +kernel) rfl rfl ?_
  refine x_getR (pc := 1) f7_41 rfl rfl (show decode mX7_depthOf.2.1 1 = .ok (.getfield 41, 3) by decide +kernel) ?_
  refine x_aload_n (pc := 4) (show decode mX7_depthOf.2.1 4 = .ok (.aload_n 0, 1) by decide +kernel) rfl rfl ?_
  refine x_getR (pc := 5) f7_12 rfl rfl (show decode mX7_depthOf.2.1 5 = .ok (.getfield 12, 3) by decide +kernel) ?_
  refine x_callV (pc := 8) (As := [.inr (.inr 1)]) (rest := []) (lk7_155 rfl) im_X2_study sl_X2_study rfl rfl rfl (Nat.le_of_ble_eq_true rfl) (Nat.le_of_ble_eq_true rfl) (show decode mX7_depthOf.2.1 8 = .ok (.invokevirtual 155, 3) by decide +kernel) hd hR (fun r9 h1 hq => ?_)
  obtain ⟨rfl, hR⟩ := hq
  show xG _ _ _ 11 _ [] _ _
  refine x_aload_n (pc := 11) (show decode mX7_depthOf.2.1 11 = .ok (.aload_n 0, 1) by decide +kernel) rfl rfl ?_
  refine x_getR (pc := 12) f7_41 rfl rfl (show decode mX7_depthOf.2.1 12 = .ok (.getfield 41, 3) by decide +kernel) ?_
  refine x_getR (pc := 15) f7_181 rfl rfl (show decode mX7_depthOf.2.1 15 = .ok (.getfield 181, 3) by decide +kernel) ?_
  refine x_iload_n (pc := 18) (show decode mX7_depthOf.2.1 18 = .ok (.iload_n 1, 1) by decide +kernel) rfl rfl ?_
  obtain ⟨hg, hR⟩ := hR
  refine x_iald (pc := 19) rfl (by decide) hg (show decode mX7_depthOf.2.1 19 = .ok (.iaload, 1) by decide +kernel) ?_
  exact x_iret (pc := 20) rfl (show decode mX7_depthOf.2.1 20 = .ok (.ireturn, 1) by decide +kernel) ⟨_, rfl, hR⟩
set_option maxRecDepth 4000 in
theorem sg_X7_lackingPins_0 {d : Nat} {h : xH} {Q : Int → xH → Prop}
    (hR : gL wdC d mX7_lackingPins 4 [some (.inr (.inr 0)), some (.inr (.inl 0)), none, some (.inl 0)] h Q) :
    gL wdC d mX7_lackingPins 0 [some (.inr (.inr 0)), none, none, none] h Q := by
  unfold gL
  refine x_lconst (pc := 0) (v := 0) (show decode mX7_lackingPins.2.1 0 = .ok (.lconst 0, 1) by decide +kernel) rfl ?_
  refine x_lstore_n (pc := 1) (ls' := [some (.inr (.inr 0)), some (.inr (.inl 0)), none, none]) (show decode mX7_lackingPins.2.1 1 = .ok (.lstore_n 1, 1) by decide +kernel) rfl (by decide) rfl ?_
  refine x_iconst (pc := 2) (n := 0) (show decode mX7_lackingPins.2.1 2 = .ok (.iconst 0, 1) by decide +kernel) ?_
  refine x_istore_n (pc := 3) (ls' := [some (.inr (.inr 0)), some (.inr (.inl 0)), none, some (.inl 0)]) (show decode mX7_lackingPins.2.1 3 = .ok (.istore_n 3, 1) by decide +kernel) rfl (by decide) rfl ?_
  exact hR
set_option maxRecDepth 4000 in
theorem sg_X7_lackingPins_4 {d : Nat} {x1 x3 : Int} {h : xH} {Q : Int → xH → Prop} (hd : 1 ≤ d)
    (hR : (inI x3 ∧ inI (h 1 2)) ∧ ((h 1 2) ≤ x3 → Q x1 h) ∧ (x3 < (h 1 2) → cB wdC (d - 1) mX3_lacksPair [.inr (.inr 1), .inl x3] h (fun h1 => cL wdC (d - 1) mX7_pinBit [.inl x3] h1 (fun r3 h2 => gL wdC d mX7_lackingPins 4 [some (.inr (.inr 0)), some (.inr (.inl (xorL x1 r3))), none, some (.inl (x3 + 1))] h2 Q)) (fun h1 => gL wdC d mX7_lackingPins 4 [some (.inr (.inr 0)), some (.inr (.inl x1)), none, some (.inl (x3 + 1))] h1 Q))) :
    gL wdC d mX7_lackingPins 4 [some (.inr (.inr 0)), some (.inr (.inl x1)), none, some (.inl x3)] h Q := by
  unfold gL
  refine x_iload_n (pc := 4) (show decode mX7_lackingPins.2.1 4 = .ok (.iload_n 3, 1) by decide +kernel) rfl rfl ?_
  refine x_aload_n (pc := 5) (show decode mX7_lackingPins.2.1 5 = .ok (.aload_n 0, 1) by decide +kernel) rfl rfl ?_
  refine x_getR (pc := 6) f7_12 rfl rfl (show decode mX7_lackingPins.2.1 6 = .ok (.getfield 12, 3) by decide +kernel) ?_
  refine x_getI (pc := 9) (ki := 2) f7_107 rfl rfl (by decide) rfl (show decode mX7_lackingPins.2.1 9 = .ok (.getfield 107, 3) by decide +kernel) ?_
  obtain ⟨hg, hR⟩ := hR
  refine x_icmp_ge (pc := 12) (tgt := 39) (show decode mX7_lackingPins.2.1 12 = .ok (.if_icmp .ge 27, 3) by decide +kernel) (by decide) ⟨hg.1, hg.2⟩ (fun hc => ?_) (fun hc => ?_)
  · replace hR := hR.1 hc
    refine x_lload_n (pc := 39) (show decode mX7_lackingPins.2.1 39 = .ok (.lload_n 1, 1) by decide +kernel) rfl rfl ?_
    exact x_lret (pc := 40) rfl (show decode mX7_lackingPins.2.1 40 = .ok (.lreturn, 1) by decide +kernel) ⟨_, rfl, hR⟩
  · replace hR := hR.2 hc
    refine x_aload_n (pc := 15) (show decode mX7_lackingPins.2.1 15 = .ok (.aload_n 0, 1) by decide +kernel) rfl rfl ?_
    refine x_getR (pc := 16) f7_12 rfl rfl (show decode mX7_lackingPins.2.1 16 = .ok (.getfield 12, 3) by decide +kernel) ?_
    refine x_iload_n (pc := 19) (show decode mX7_lackingPins.2.1 19 = .ok (.iload_n 3, 1) by decide +kernel) rfl rfl ?_
    refine x_callV (pc := 20) (As := [.inl x3]) (rest := []) (lk7_129 rfl) im_X3_lacksPair sl_X3_lacksPair rfl rfl rfl (Nat.le_of_ble_eq_true rfl) (Nat.le_of_ble_eq_true rfl) (show decode mX7_lackingPins.2.1 20 = .ok (.invokevirtual 129, 3) by decide +kernel) hd hR (fun r9 h1 hq => ?_)
    obtain ⟨r8, rfl, hq⟩ := hq
    rcases hq with ⟨rfl, hR⟩ | ⟨rfl, hR⟩
    · show xG _ _ _ 23 _ [.inl 1] _ _
      refine x_if_eq (pc := 23) (tgt := 33) (show decode mX7_lackingPins.2.1 23 = .ok (.ifCond .eq 10, 3) by decide +kernel) (by decide) (by unfold inI; decide) (fun hc => absurd hc (by decide)) (fun _ => ?_)
      refine x_lload_n (pc := 26) (show decode mX7_lackingPins.2.1 26 = .ok (.lload_n 1, 1) by decide +kernel) rfl rfl ?_
      refine x_iload_n (pc := 27) (show decode mX7_lackingPins.2.1 27 = .ok (.iload_n 3, 1) by decide +kernel) rfl rfl ?_
      refine x_callS (pc := 28) (As := [.inl x3]) (rest := [.inr (.inl x1)]) (lk7_342 rfl) sm_X7_pinBit (Nat.le_of_ble_eq_true rfl) (Nat.le_of_ble_eq_true rfl) (show decode mX7_lackingPins.2.1 28 = .ok (.invokestatic 342, 3) by decide +kernel) hd hR (fun r9 h2 hq => ?_)
      obtain ⟨r3, rfl, hR⟩ := hq
      show xG _ _ _ 31 _ [.inr (.inl r3), .inr (.inl x1)] _ _
      refine x_lor (pc := 31) (show decode mX7_lackingPins.2.1 31 = .ok (.lor, 1) by decide +kernel) ?_
      refine x_lstore_n (pc := 32) (ls' := [some (.inr (.inr 0)), some (.inr (.inl (xorL x1 r3))), none, some (.inl x3)]) (show decode mX7_lackingPins.2.1 32 = .ok (.lstore_n 1, 1) by decide +kernel) rfl (by decide) rfl ?_
      refine x_iinc (pc := 33) (ls' := [some (.inr (.inr 0)), some (.inr (.inl (xorL x1 r3))), none, some (.inl (x3 + 1))]) (show decode mX7_lackingPins.2.1 33 = .ok (.iinc 3 1, 3) by decide +kernel) (by decide) rfl rfl ?_
      refine x_goto (pc := 36) (tgt := 4) (show decode mX7_lackingPins.2.1 36 = .ok (.goto (-32), 3) by decide +kernel) (by decide) ?_
      exact hR
    · show xG _ _ _ 23 _ [.inl 0] _ _
      refine x_if_eq (pc := 23) (tgt := 33) (show decode mX7_lackingPins.2.1 23 = .ok (.ifCond .eq 10, 3) by decide +kernel) (by decide) (by unfold inI; decide) (fun _ => ?_) (fun hc => absurd hc (by decide))
      refine x_iinc (pc := 33) (ls' := [some (.inr (.inr 0)), some (.inr (.inl x1)), none, some (.inl (x3 + 1))]) (show decode mX7_lackingPins.2.1 33 = .ok (.iinc 3 1, 3) by decide +kernel) (by decide) rfl rfl ?_
      refine x_goto (pc := 36) (tgt := 4) (show decode mX7_lackingPins.2.1 36 = .ok (.goto (-32), 3) by decide +kernel) (by decide) ?_
      exact hR
set_option maxRecDepth 4000 in
theorem sg_X7_readyPins_0 {d : Nat} {h : xH} {Q : Int → xH → Prop} (hd : 1 ≤ d)
    (hR : cV wdC (d - 1) mX2_study [.inr (.inr 26), .inr (.inr 1)] h (fun h1 => cL wdC (d - 1) mX7_lackingPins [.inr (.inr 0)] h1 (fun r3 h2 => gL wdC d mX7_readyPins 29 [some (.inr (.inr 0)), some (.inr (.inl (xorL (h1 6 2) r3))), none, some (.inr (.inl 0)), none, some (.inl 0)] h2 Q))) :
    gL wdC d mX7_readyPins 0 [some (.inr (.inr 0)), none, none, none, none, none] h Q := by
  unfold gL
  refine x_aload_n (pc := 0) (show decode mX7_readyPins.2.1 0 = .ok (.aload_n 0, 1) by decide +kernel) rfl rfl ?_
  refine x_getR (pc := 1) f7_41 rfl rfl (show decode mX7_readyPins.2.1 1 = .ok (.getfield 41, 3) by decide +kernel) ?_
  refine x_aload_n (pc := 4) (show decode mX7_readyPins.2.1 4 = .ok (.aload_n 0, 1) by decide +kernel) rfl rfl ?_
  refine x_getR (pc := 5) f7_12 rfl rfl (show decode mX7_readyPins.2.1 5 = .ok (.getfield 12, 3) by decide +kernel) ?_
  refine x_callV (pc := 8) (As := [.inr (.inr 1)]) (rest := []) (lk7_155 rfl) im_X2_study sl_X2_study rfl rfl rfl (Nat.le_of_ble_eq_true rfl) (Nat.le_of_ble_eq_true rfl) (show decode mX7_readyPins.2.1 8 = .ok (.invokevirtual 155, 3) by decide +kernel) hd hR (fun r9 h1 hq => ?_)
  obtain ⟨rfl, hR⟩ := hq
  show xG _ _ _ 11 _ [] _ _
  refine x_aload_n (pc := 11) (show decode mX7_readyPins.2.1 11 = .ok (.aload_n 0, 1) by decide +kernel) rfl rfl ?_
  refine x_getR (pc := 12) f7_21 rfl rfl (show decode mX7_readyPins.2.1 12 = .ok (.getfield 21, 3) by decide +kernel) ?_
  refine x_getL (pc := 15) (ki := 2) f7_177 rfl rfl rfl (show decode mX7_readyPins.2.1 15 = .ok (.getfield 177, 3) by decide +kernel) ?_
  refine x_aload_n (pc := 18) (show decode mX7_readyPins.2.1 18 = .ok (.aload_n 0, 1) by decide +kernel) rfl rfl ?_
  refine x_callV (pc := 19) (As := []) (rest := [.inr (.inl (h1 6 2))]) (lk7_170 rfl) im_X7_lackingPins sl_X7_lackingPins rfl rfl rfl (Nat.le_of_ble_eq_true rfl) (Nat.le_of_ble_eq_true rfl) (show decode mX7_readyPins.2.1 19 = .ok (.invokevirtual 170, 3) by decide +kernel) hd hR (fun r9 h2 hq => ?_)
  obtain ⟨r3, rfl, hR⟩ := hq
  show xG _ _ _ 22 _ [.inr (.inl r3), .inr (.inl (h1 6 2))] _ _
  refine x_lor (pc := 22) (show decode mX7_readyPins.2.1 22 = .ok (.lor, 1) by decide +kernel) ?_
  refine x_lstore_n (pc := 23) (ls' := [some (.inr (.inr 0)), some (.inr (.inl (xorL (h1 6 2) r3))), none, none, none, none]) (show decode mX7_readyPins.2.1 23 = .ok (.lstore_n 1, 1) by decide +kernel) rfl (by decide) rfl ?_
  refine x_lconst (pc := 24) (v := 0) (show decode mX7_readyPins.2.1 24 = .ok (.lconst 0, 1) by decide +kernel) rfl ?_
  refine x_lstore_n (pc := 25) (ls' := [some (.inr (.inr 0)), some (.inr (.inl (xorL (h1 6 2) r3))), none, some (.inr (.inl 0)), none, none]) (show decode mX7_readyPins.2.1 25 = .ok (.lstore_n 3, 1) by decide +kernel) rfl (by decide) rfl ?_
  refine x_iconst (pc := 26) (n := 0) (show decode mX7_readyPins.2.1 26 = .ok (.iconst 0, 1) by decide +kernel) ?_
  refine x_istore (pc := 27) (ls' := [some (.inr (.inr 0)), some (.inr (.inl (xorL (h1 6 2) r3))), none, some (.inr (.inl 0)), none, some (.inl 0)]) (show decode mX7_readyPins.2.1 27 = .ok (.istore 5, 2) by decide +kernel) (by decide) rfl ?_
  exact hR
set_option maxRecDepth 4000 in
theorem sg_X7_readyPins_29 {d : Nat} {x1 x3 x5 : Int} {h : xH} {Q : Int → xH → Prop} (hd : 1 ≤ d)
    (hR : (inI x5 ∧ inI (h 1 2)) ∧ ((h 1 2) ≤ x5 → Q x3 h) ∧ (x5 < (h 1 2) → cB wdC (d - 1) mX7_hasPin [.inr (.inl x1), .inl x5] h (fun h1 => gL wdC d mX7_readyPins 29 [some (.inr (.inr 0)), some (.inr (.inl x1)), none, some (.inr (.inl x3)), none, some (.inl (x5 + 1))] h1 Q) (fun h1 => (0 ≤ x5 ∧ x5 < 30) ∧ (inL (xandL (h1 28 x5) (xxorL (h1 6 2) (-1)))) ∧ (¬ (xandL (h1 28 x5) (xxorL (h1 6 2) (-1))) = 0 → gL wdC d mX7_readyPins 29 [some (.inr (.inr 0)), some (.inr (.inl x1)), none, some (.inr (.inl x3)), none, some (.inl (x5 + 1))] h1 Q) ∧ ((xandL (h1 28 x5) (xxorL (h1 6 2) (-1))) = 0 → cL wdC (d - 1) mX7_pinBit [.inl x5] h1 (fun r3 h2 => gL wdC d mX7_readyPins 29 [some (.inr (.inr 0)), some (.inr (.inl x1)), none, some (.inr (.inl (xorL x3 r3))), none, some (.inl (x5 + 1))] h2 Q))))) :
    gL wdC d mX7_readyPins 29 [some (.inr (.inr 0)), some (.inr (.inl x1)), none, some (.inr (.inl x3)), none, some (.inl x5)] h Q := by
  unfold gL
  refine x_iload (pc := 29) (show decode mX7_readyPins.2.1 29 = .ok (.iload 5, 2) by decide +kernel) rfl ?_
  refine x_aload_n (pc := 31) (show decode mX7_readyPins.2.1 31 = .ok (.aload_n 0, 1) by decide +kernel) rfl rfl ?_
  refine x_getR (pc := 32) f7_12 rfl rfl (show decode mX7_readyPins.2.1 32 = .ok (.getfield 12, 3) by decide +kernel) ?_
  refine x_getI (pc := 35) (ki := 2) f7_107 rfl rfl (by decide) rfl (show decode mX7_readyPins.2.1 35 = .ok (.getfield 107, 3) by decide +kernel) ?_
  obtain ⟨hg, hR⟩ := hR
  refine x_icmp_ge (pc := 38) (tgt := 91) (show decode mX7_readyPins.2.1 38 = .ok (.if_icmp .ge 53, 3) by decide +kernel) (by decide) ⟨hg.1, hg.2⟩ (fun hc => ?_) (fun hc => ?_)
  · replace hR := hR.1 hc
    refine x_lload_n (pc := 91) (show decode mX7_readyPins.2.1 91 = .ok (.lload_n 3, 1) by decide +kernel) rfl rfl ?_
    exact x_lret (pc := 92) rfl (show decode mX7_readyPins.2.1 92 = .ok (.lreturn, 1) by decide +kernel) ⟨_, rfl, hR⟩
  · replace hR := hR.2 hc
    refine x_lload_n (pc := 41) (show decode mX7_readyPins.2.1 41 = .ok (.lload_n 1, 1) by decide +kernel) rfl rfl ?_
    refine x_iload (pc := 42) (show decode mX7_readyPins.2.1 42 = .ok (.iload 5, 2) by decide +kernel) rfl ?_
    refine x_callS (pc := 44) (As := [.inr (.inl x1), .inl x5]) (rest := []) (lk7_189 rfl) sm_X7_hasPin (Nat.le_of_ble_eq_true rfl) (Nat.le_of_ble_eq_true rfl) (show decode mX7_readyPins.2.1 44 = .ok (.invokestatic 189, 3) by decide +kernel) hd hR (fun r9 h1 hq => ?_)
    obtain ⟨r8, rfl, hq⟩ := hq
    rcases hq with ⟨rfl, hR⟩ | ⟨rfl, hR⟩
    · show xG _ _ _ 47 _ [.inl 1] _ _
      refine x_if_ne (pc := 47) (tgt := 85) (show decode mX7_readyPins.2.1 47 = .ok (.ifCond .ne 38, 3) by decide +kernel) (by decide) (by unfold inI; decide) (fun _ => ?_) (fun hc => absurd hc (by decide))
      refine x_iinc (pc := 85) (ls' := [some (.inr (.inr 0)), some (.inr (.inl x1)), none, some (.inr (.inl x3)), none, some (.inl (x5 + 1))]) (show decode mX7_readyPins.2.1 85 = .ok (.iinc 5 1, 3) by decide +kernel) (by decide) rfl rfl ?_
      refine x_goto (pc := 88) (tgt := 29) (show decode mX7_readyPins.2.1 88 = .ok (.goto (-59), 3) by decide +kernel) (by decide) ?_
      exact hR
    · show xG _ _ _ 47 _ [.inl 0] _ _
      refine x_if_ne (pc := 47) (tgt := 85) (show decode mX7_readyPins.2.1 47 = .ok (.ifCond .ne 38, 3) by decide +kernel) (by decide) (by unfold inI; decide) (fun hc => absurd hc (by decide)) (fun _ => ?_)
      refine x_aload_n (pc := 50) (show decode mX7_readyPins.2.1 50 = .ok (.aload_n 0, 1) by decide +kernel) rfl rfl ?_
      refine x_getR (pc := 51) f7_41 rfl rfl (show decode mX7_readyPins.2.1 51 = .ok (.getfield 41, 3) by decide +kernel) ?_
      refine x_getR (pc := 54) f7_163 rfl rfl (show decode mX7_readyPins.2.1 54 = .ok (.getfield 163, 3) by decide +kernel) ?_
      refine x_iload (pc := 57) (show decode mX7_readyPins.2.1 57 = .ok (.iload 5, 2) by decide +kernel) rfl ?_
      obtain ⟨hg, hR⟩ := hR
      refine x_lald (pc := 59) rfl (by decide) hg (show decode mX7_readyPins.2.1 59 = .ok (.laload, 1) by decide +kernel) ?_
      refine x_aload_n (pc := 60) (show decode mX7_readyPins.2.1 60 = .ok (.aload_n 0, 1) by decide +kernel) rfl rfl ?_
      refine x_getR (pc := 61) f7_21 rfl rfl (show decode mX7_readyPins.2.1 61 = .ok (.getfield 21, 3) by decide +kernel) ?_
      refine x_getL (pc := 64) (ki := 2) f7_177 rfl rfl rfl (show decode mX7_readyPins.2.1 64 = .ok (.getfield 177, 3) by decide +kernel) ?_
      refine x_ldc2 (pc := 67) (n := (-1)) (tblG_m3 14 rfl rfl) rfl (show decode mX7_readyPins.2.1 67 = .ok (.ldc2_w 346, 3) by decide +kernel) ?_
      refine x_lxor (pc := 70) (show decode mX7_readyPins.2.1 70 = .ok (.lxor, 1) by decide +kernel) ?_
      refine x_land (pc := 71) (show decode mX7_readyPins.2.1 71 = .ok (.land, 1) by decide +kernel) ?_
      refine x_lconst (pc := 72) (v := 0) (show decode mX7_readyPins.2.1 72 = .ok (.lconst 0, 1) by decide +kernel) rfl ?_
      obtain ⟨hg, hR⟩ := hR
      refine x_lcmp (pc := 73) (show decode mX7_readyPins.2.1 73 = .ok (.lcmp, 1) by decide +kernel) ⟨hg, (by unfold inL; decide)⟩ ?_
      refine x_if_ne (pc := 74) (tgt := 85) (show decode mX7_readyPins.2.1 74 = .ok (.ifCond .ne 11, 3) by decide +kernel) (by decide) (xcmp_in _ _) (fun hc => ?_) (fun hc => ?_)
      · replace hR := hR.1 (fun z => hc (xcmp_eq.mpr z))
        refine x_iinc (pc := 85) (ls' := [some (.inr (.inr 0)), some (.inr (.inl x1)), none, some (.inr (.inl x3)), none, some (.inl (x5 + 1))]) (show decode mX7_readyPins.2.1 85 = .ok (.iinc 5 1, 3) by decide +kernel) (by decide) rfl rfl ?_
        refine x_goto (pc := 88) (tgt := 29) (show decode mX7_readyPins.2.1 88 = .ok (.goto (-59), 3) by decide +kernel) (by decide) ?_
        exact hR
      · replace hR := hR.2 (xcmp_eq.mp hc)
        refine x_lload_n (pc := 77) (show decode mX7_readyPins.2.1 77 = .ok (.lload_n 3, 1) by decide +kernel) rfl rfl ?_
        refine x_iload (pc := 78) (show decode mX7_readyPins.2.1 78 = .ok (.iload 5, 2) by decide +kernel) rfl ?_
        refine x_callS (pc := 80) (As := [.inl x5]) (rest := [.inr (.inl x3)]) (lk7_342 rfl) sm_X7_pinBit (Nat.le_of_ble_eq_true rfl) (Nat.le_of_ble_eq_true rfl) (show decode mX7_readyPins.2.1 80 = .ok (.invokestatic 342, 3) by decide +kernel) hd hR (fun r9 h2 hq => ?_)
        obtain ⟨r3, rfl, hR⟩ := hq
        show xG _ _ _ 83 _ [.inr (.inl r3), .inr (.inl x3)] _ _
        refine x_lor (pc := 83) (show decode mX7_readyPins.2.1 83 = .ok (.lor, 1) by decide +kernel) ?_
        refine x_lstore_n (pc := 84) (ls' := [some (.inr (.inr 0)), some (.inr (.inl x1)), none, some (.inr (.inl (xorL x3 r3))), none, some (.inl x5)]) (show decode mX7_readyPins.2.1 84 = .ok (.lstore_n 3, 1) by decide +kernel) rfl (by decide) rfl ?_
        refine x_iinc (pc := 85) (ls' := [some (.inr (.inr 0)), some (.inr (.inl x1)), none, some (.inr (.inl (xorL x3 r3))), none, some (.inl (x5 + 1))]) (show decode mX7_readyPins.2.1 85 = .ok (.iinc 5 1, 3) by decide +kernel) (by decide) rfl rfl ?_
        refine x_goto (pc := 88) (tgt := 29) (show decode mX7_readyPins.2.1 88 = .ok (.goto (-59), 3) by decide +kernel) (by decide) ?_
        exact hR
set_option maxRecDepth 4000 in
theorem sg_X7_workOne_0 {d : Nat} {x1 : Int} {h : xH} {Q : xH → Prop} (hd : 1 ≤ d)
    (hR : (0 ≤ x1 ∧ x1 < 30) ∧ (0 ≤ x1 ∧ x1 < 30) ∧ cV wdC (d - 1) mX0_workPin [.inr (.inr 6), .inl x1, .inl (h 3 x1), .inl (h 4 x1)] h (fun h1 => Q h1)) :
    gV wdC d mX7_workOne 0 [some (.inr (.inr 0)), some (.inl x1)] h Q := by
  unfold gV
  refine x_aload_n (pc := 0) (show decode mX7_workOne.2.1 0 = .ok (.aload_n 0, 1) by decide +kernel) rfl rfl ?_
  refine x_getR (pc := 1) f7_21 rfl rfl (show decode mX7_workOne.2.1 1 = .ok (.getfield 21, 3) by decide +kernel) ?_
  refine x_iload_n (pc := 4) (show decode mX7_workOne.2.1 4 = .ok (.iload_n 1, 1) by decide +kernel) rfl rfl ?_
  refine x_aload_n (pc := 5) (show decode mX7_workOne.2.1 5 = .ok (.aload_n 0, 1) by decide +kernel) rfl rfl ?_
  refine x_getR (pc := 6) f7_12 rfl rfl (show decode mX7_workOne.2.1 6 = .ok (.getfield 12, 3) by decide +kernel) ?_
  refine x_getR (pc := 9) f7_119 rfl rfl (show decode mX7_workOne.2.1 9 = .ok (.getfield 119, 3) by decide +kernel) ?_
  refine x_iload_n (pc := 12) (show decode mX7_workOne.2.1 12 = .ok (.iload_n 1, 1) by decide +kernel) rfl rfl ?_
  obtain ⟨hg, hR⟩ := hR
  refine x_iald (pc := 13) rfl (by decide) hg (show decode mX7_workOne.2.1 13 = .ok (.iaload, 1) by decide +kernel) ?_
  refine x_aload_n (pc := 14) (show decode mX7_workOne.2.1 14 = .ok (.aload_n 0, 1) by decide +kernel) rfl rfl ?_
  refine x_getR (pc := 15) f7_12 rfl rfl (show decode mX7_workOne.2.1 15 = .ok (.getfield 12, 3) by decide +kernel) ?_
  refine x_getR (pc := 18) f7_113 rfl rfl (show decode mX7_workOne.2.1 18 = .ok (.getfield 113, 3) by decide +kernel) ?_
  refine x_iload_n (pc := 21) (show decode mX7_workOne.2.1 21 = .ok (.iload_n 1, 1) by decide +kernel) rfl rfl ?_
  obtain ⟨hg, hR⟩ := hR
  refine x_iald (pc := 22) rfl (by decide) hg (show decode mX7_workOne.2.1 22 = .ok (.iaload, 1) by decide +kernel) ?_
  refine x_callV (pc := 23) (As := [.inl x1, .inl (h 3 x1), .inl (h 4 x1)]) (rest := []) (lk7_348 rfl) im_X0_workPin sl_X0_workPin rfl rfl rfl (Nat.le_of_ble_eq_true rfl) (Nat.le_of_ble_eq_true rfl) (show decode mX7_workOne.2.1 23 = .ok (.invokevirtual 348, 3) by decide +kernel) hd hR (fun r9 h1 hq => ?_)
  obtain ⟨rfl, hR⟩ := hq
  show xG _ _ _ 26 _ [] _ _
  exact x_vret (pc := 26) rfl (show decode mX7_workOne.2.1 26 = .ok (.return_, 1) by decide +kernel) ⟨rfl, hR⟩
set_option maxRecDepth 4000 in
theorem sg_X7_think_0 {d : Nat} {h : xH} {Q : Int → xH → Prop} (hd : 1 ≤ d)
    (hR : cV wdC (d - 1) mX2_study [.inr (.inr 26), .inr (.inr 1)] h (fun h1 => cL wdC (d - 1) mX7_lackingPins [.inr (.inr 0)] h1 (fun r3 h2 => cI wdC (d - 1) mX6_gather [.inr (.inr 32), .inr (.inr 1), .inr (.inr 26), .inr (.inl (h1 6 2)), .inr (.inl r3)] h2 (fun r5 h4 => (r5 = 0 ∨ r5 = 1) ∧ Q r5 h4)))) :
    gI wdC d mX7_think 0 [some (.inr (.inr 0))] h Q := by
  unfold gI
  refine x_aload_n (pc := 0) (show decode mX7_think.2.1 0 = .ok (.aload_n 0, 1) by decide +kernel) rfl rfl ?_
  refine x_getR (pc := 1) f7_41 rfl rfl (show decode mX7_think.2.1 1 = .ok (.getfield 41, 3) by decide +kernel) ?_
  refine x_aload_n (pc := 4) (show decode mX7_think.2.1 4 = .ok (.aload_n 0, 1) by decide +kernel) rfl rfl ?_
  refine x_getR (pc := 5) f7_12 rfl rfl (show decode mX7_think.2.1 5 = .ok (.getfield 12, 3) by decide +kernel) ?_
  refine x_callV (pc := 8) (As := [.inr (.inr 1)]) (rest := []) (lk7_155 rfl) im_X2_study sl_X2_study rfl rfl rfl (Nat.le_of_ble_eq_true rfl) (Nat.le_of_ble_eq_true rfl) (show decode mX7_think.2.1 8 = .ok (.invokevirtual 155, 3) by decide +kernel) hd hR (fun r9 h1 hq => ?_)
  obtain ⟨rfl, hR⟩ := hq
  show xG _ _ _ 11 _ [] _ _
  refine x_aload_n (pc := 11) (show decode mX7_think.2.1 11 = .ok (.aload_n 0, 1) by decide +kernel) rfl rfl ?_
  refine x_getR (pc := 12) f7_48 rfl rfl (show decode mX7_think.2.1 12 = .ok (.getfield 48, 3) by decide +kernel) ?_
  refine x_aload_n (pc := 15) (show decode mX7_think.2.1 15 = .ok (.aload_n 0, 1) by decide +kernel) rfl rfl ?_
  refine x_getR (pc := 16) f7_12 rfl rfl (show decode mX7_think.2.1 16 = .ok (.getfield 12, 3) by decide +kernel) ?_
  refine x_aload_n (pc := 19) (show decode mX7_think.2.1 19 = .ok (.aload_n 0, 1) by decide +kernel) rfl rfl ?_
  refine x_getR (pc := 20) f7_41 rfl rfl (show decode mX7_think.2.1 20 = .ok (.getfield 41, 3) by decide +kernel) ?_
  refine x_aload_n (pc := 23) (show decode mX7_think.2.1 23 = .ok (.aload_n 0, 1) by decide +kernel) rfl rfl ?_
  refine x_getR (pc := 24) f7_21 rfl rfl (show decode mX7_think.2.1 24 = .ok (.getfield 21, 3) by decide +kernel) ?_
  refine x_getL (pc := 27) (ki := 2) f7_177 rfl rfl rfl (show decode mX7_think.2.1 27 = .ok (.getfield 177, 3) by decide +kernel) ?_
  refine x_aload_n (pc := 30) (show decode mX7_think.2.1 30 = .ok (.aload_n 0, 1) by decide +kernel) rfl rfl ?_
  refine x_callV (pc := 31) (As := []) (rest := [.inr (.inl (h1 6 2)), .inr (.inr 26), .inr (.inr 1), .inr (.inr 32)]) (lk7_170 rfl) im_X7_lackingPins sl_X7_lackingPins rfl rfl rfl (Nat.le_of_ble_eq_true rfl) (Nat.le_of_ble_eq_true rfl) (show decode mX7_think.2.1 31 = .ok (.invokevirtual 170, 3) by decide +kernel) hd hR (fun r9 h2 hq => ?_)
  obtain ⟨r3, rfl, hR⟩ := hq
  show xG _ _ _ 34 _ [.inr (.inl r3), .inr (.inl (h1 6 2)), .inr (.inr 26), .inr (.inr 1), .inr (.inr 32)] _ _
  refine x_callV (pc := 34) (As := [.inr (.inr 1), .inr (.inr 26), .inr (.inl (h1 6 2)), .inr (.inl r3)]) (rest := []) (lk7_351 rfl) im_X6_gather sl_X6_gather rfl rfl rfl (Nat.le_of_ble_eq_true rfl) (Nat.le_of_ble_eq_true rfl) (show decode mX7_think.2.1 34 = .ok (.invokevirtual 351, 3) by decide +kernel) hd hR (fun r9 h4 hq => ?_)
  obtain ⟨r5, rfl, hR⟩ := hq
  show xG _ _ _ 37 _ [.inl r5] _ _
  exact x_zret (pc := 37) rfl (show decode mX7_think.2.1 37 = .ok (.ireturn, 1) by decide +kernel) hR.1 ⟨_, rfl, hR.2⟩
set_option maxRecDepth 4000 in
theorem sg_X7_slotAndRow_0 {d : Nat} {x0 : Int} {h : xH} {Q : Int → xH → Prop} (hd : 1 ≤ d)
    (hR : cI wdC (d - 1) mX3_slotOfTurn [.inl x0] h (fun r2 h1 => cI wdC (d - 1) mX3_rowOfTurn [.inl x0] h1 (fun r4 h3 => Q ((100 * r2) + r4) h3))) :
    gI wdC d mX7_slotAndRow 0 [some (.inl x0)] h Q := by
  unfold gI
  refine x_bipush (pc := 0) (n := 100) (show decode mX7_slotAndRow.2.1 0 = .ok (.bipush 100, 2) by decide +kernel) rfl ?_
  refine x_iload_n (pc := 2) (show decode mX7_slotAndRow.2.1 2 = .ok (.iload_n 0, 1) by decide +kernel) rfl rfl ?_
  refine x_callS (pc := 3) (As := [.inl x0]) (rest := [.inl 100]) (lk7_355 rfl) sm_X3_slotOfTurn (Nat.le_of_ble_eq_true rfl) (Nat.le_of_ble_eq_true rfl) (show decode mX7_slotAndRow.2.1 3 = .ok (.invokestatic 355, 3) by decide +kernel) hd hR (fun r9 h1 hq => ?_)
  obtain ⟨r2, rfl, hR⟩ := hq
  show xG _ _ _ 6 _ [.inl r2, .inl 100] _ _
  refine x_imul (pc := 6) (show decode mX7_slotAndRow.2.1 6 = .ok (.imul, 1) by decide +kernel) ?_
  refine x_iload_n (pc := 7) (show decode mX7_slotAndRow.2.1 7 = .ok (.iload_n 0, 1) by decide +kernel) rfl rfl ?_
  refine x_callS (pc := 8) (As := [.inl x0]) (rest := [.inl (100 * r2)]) (lk7_358 rfl) sm_X3_rowOfTurn (Nat.le_of_ble_eq_true rfl) (Nat.le_of_ble_eq_true rfl) (show decode mX7_slotAndRow.2.1 8 = .ok (.invokestatic 358, 3) by decide +kernel) hd hR (fun r9 h3 hq => ?_)
  obtain ⟨r4, rfl, hR⟩ := hq
  show xG _ _ _ 11 _ [.inl r4, .inl (100 * r2)] _ _
  refine x_iadd (pc := 11) (show decode mX7_slotAndRow.2.1 11 = .ok (.iadd, 1) by decide +kernel) ?_
  exact x_iret (pc := 12) rfl (show decode mX7_slotAndRow.2.1 12 = .ok (.ireturn, 1) by decide +kernel) ⟨_, rfl, hR⟩
set_option maxRecDepth 4000 in
theorem sg_X7_drawPin_0 {d : Nat} {x1 : Int} {h : xH} {Q : xH → Prop}
    (hR : (0 ≤ x1 ∧ x1 < 12) ∧ (0 ≤ (x1 + 1) ∧ (x1 + 1) < 12) ∧ Q (xu (xu h 53 x1 40) 53 (x1 + 1) 41)) :
    gV wdC d mX7_drawPin 0 [some (.inr (.inr 0)), some (.inl x1)] h Q := by
  unfold gV
  refine x_aload_n (pc := 0) (show decode mX7_drawPin.2.1 0 = .ok (.aload_n 0, 1) by decide +kernel) rfl rfl ?_
  refine x_getR (pc := 1) f7_73 rfl rfl (show decode mX7_drawPin.2.1 1 = .ok (.getfield 73, 3) by decide +kernel) ?_
  refine x_iload_n (pc := 4) (show decode mX7_drawPin.2.1 4 = .ok (.iload_n 1, 1) by decide +kernel) rfl rfl ?_
  refine x_bipush (pc := 5) (n := 40) (show decode mX7_drawPin.2.1 5 = .ok (.bipush 40, 2) by decide +kernel) rfl ?_
  obtain ⟨hg, hR⟩ := hR
  refine x_iast (pc := 7) rfl (by decide) hg (show decode mX7_drawPin.2.1 7 = .ok (.iastore, 1) by decide +kernel) ?_
  refine x_aload_n (pc := 8) (show decode mX7_drawPin.2.1 8 = .ok (.aload_n 0, 1) by decide +kernel) rfl rfl ?_
  refine x_getR (pc := 9) f7_73 rfl rfl (show decode mX7_drawPin.2.1 9 = .ok (.getfield 73, 3) by decide +kernel) ?_
  refine x_iload_n (pc := 12) (show decode mX7_drawPin.2.1 12 = .ok (.iload_n 1, 1) by decide +kernel) rfl rfl ?_
  refine x_iconst (pc := 13) (n := 1) (show decode mX7_drawPin.2.1 13 = .ok (.iconst 1, 1) by decide +kernel) ?_
  refine x_iadd (pc := 14) (show decode mX7_drawPin.2.1 14 = .ok (.iadd, 1) by decide +kernel) ?_
  refine x_bipush (pc := 15) (n := 41) (show decode mX7_drawPin.2.1 15 = .ok (.bipush 41, 2) by decide +kernel) rfl ?_
  obtain ⟨hg, hR⟩ := hR
  refine x_iast (pc := 17) rfl (by decide) hg (show decode mX7_drawPin.2.1 17 = .ok (.iastore, 1) by decide +kernel) ?_
  exact x_vret (pc := 18) rfl (show decode mX7_drawPin.2.1 18 = .ok (.return_, 1) by decide +kernel) ⟨rfl, hR⟩
set_option maxRecDepth 4000 in
theorem sg_X7_wouldBeSeen_0 {d : Nat} {x1 x2 x3 x4 : Int} {h : xH} {Q : Int → xH → Prop} (hd : 1 ≤ d)
    (hR : (0 ≤ x1 ∧ x1 < 30) ∧ cV wdC (d - 1) mX0_workPin [.inr (.inr 6), .inl x1, .inl (h 3 x1), .inl x2] h (fun h1 => gI wdC d mX7_wouldBeSeen 28 [some (.inr (.inr 0)), some (.inl x1), some (.inl x2), some (.inl x3), some (.inl x4), some (.inl (h 3 x1)), some (.inl 1), some (.inl 0)] h1 Q)) :
    gI wdC d mX7_wouldBeSeen 0 [some (.inr (.inr 0)), some (.inl x1), some (.inl x2), some (.inl x3), some (.inl x4), none, none, none] h Q := by
  unfold gI
  refine x_aload_n (pc := 0) (show decode mX7_wouldBeSeen.2.1 0 = .ok (.aload_n 0, 1) by decide +kernel) rfl rfl ?_
  refine x_getR (pc := 1) f7_12 rfl rfl (show decode mX7_wouldBeSeen.2.1 1 = .ok (.getfield 12, 3) by decide +kernel) ?_
  refine x_getR (pc := 4) f7_119 rfl rfl (show decode mX7_wouldBeSeen.2.1 4 = .ok (.getfield 119, 3) by decide +kernel) ?_
  refine x_iload_n (pc := 7) (show decode mX7_wouldBeSeen.2.1 7 = .ok (.iload_n 1, 1) by decide +kernel) rfl rfl ?_
  obtain ⟨hg, hR⟩ := hR
  refine x_iald (pc := 8) rfl (by decide) hg (show decode mX7_wouldBeSeen.2.1 8 = .ok (.iaload, 1) by decide +kernel) ?_
  refine x_istore (pc := 9) (ls' := [some (.inr (.inr 0)), some (.inl x1), some (.inl x2), some (.inl x3), some (.inl x4), some (.inl (h 3 x1)), none, none]) (show decode mX7_wouldBeSeen.2.1 9 = .ok (.istore 5, 2) by decide +kernel) (by decide) rfl ?_
  refine x_aload_n (pc := 11) (show decode mX7_wouldBeSeen.2.1 11 = .ok (.aload_n 0, 1) by decide +kernel) rfl rfl ?_
  refine x_getR (pc := 12) f7_21 rfl rfl (show decode mX7_wouldBeSeen.2.1 12 = .ok (.getfield 21, 3) by decide +kernel) ?_
  refine x_iload_n (pc := 15) (show decode mX7_wouldBeSeen.2.1 15 = .ok (.iload_n 1, 1) by decide +kernel) rfl rfl ?_
  refine x_iload (pc := 16) (show decode mX7_wouldBeSeen.2.1 16 = .ok (.iload 5, 2) by decide +kernel) rfl ?_
  refine x_iload_n (pc := 18) (show decode mX7_wouldBeSeen.2.1 18 = .ok (.iload_n 2, 1) by decide +kernel) rfl rfl ?_
  refine x_callV (pc := 19) (As := [.inl x1, .inl (h 3 x1), .inl x2]) (rest := []) (lk7_348 rfl) im_X0_workPin sl_X0_workPin rfl rfl rfl (Nat.le_of_ble_eq_true rfl) (Nat.le_of_ble_eq_true rfl) (show decode mX7_wouldBeSeen.2.1 19 = .ok (.invokevirtual 348, 3) by decide +kernel) hd hR (fun r9 h1 hq => ?_)
  obtain ⟨rfl, hR⟩ := hq
  show xG _ _ _ 22 _ [] _ _
  refine x_iconst (pc := 22) (n := 1) (show decode mX7_wouldBeSeen.2.1 22 = .ok (.iconst 1, 1) by decide +kernel) ?_
  refine x_istore (pc := 23) (ls' := [some (.inr (.inr 0)), some (.inl x1), some (.inl x2), some (.inl x3), some (.inl x4), some (.inl (h 3 x1)), some (.inl 1), none]) (show decode mX7_wouldBeSeen.2.1 23 = .ok (.istore 6, 2) by decide +kernel) (by decide) rfl ?_
  refine x_iconst (pc := 25) (n := 0) (show decode mX7_wouldBeSeen.2.1 25 = .ok (.iconst 0, 1) by decide +kernel) ?_
  refine x_istore (pc := 26) (ls' := [some (.inr (.inr 0)), some (.inl x1), some (.inl x2), some (.inl x3), some (.inl x4), some (.inl (h 3 x1)), some (.inl 1), some (.inl 0)]) (show decode mX7_wouldBeSeen.2.1 26 = .ok (.istore 7, 2) by decide +kernel) (by decide) rfl ?_
  exact hR
set_option maxRecDepth 4000 in
theorem sg_X7_wouldBeSeen_28 {d : Nat} {x1 x2 x3 x4 x5 x6 x7 : Int} {h : xH} {Q : Int → xH → Prop} (hd : 1 ≤ d)
    (hR : (inI x7 ∧ inI (2 * (h 1 0))) ∧ ((2 * (h 1 0)) ≤ x7 → cV wdC (d - 1) mX0_unwork [.inr (.inr 6), .inl x1, .inl x5, .inl x2] h (fun h1 => (x6 = 0 ∨ x6 = 1) ∧ Q x6 h1)) ∧ (x7 < (2 * (h 1 0)) → cL wdC (d - 1) mX4_at [.inr (.inr 50), .inl x3, .inl (x4 + x7)] h (fun r3 h2 => (0 ≤ x7 ∧ x7 < 24) ∧ inI (h2 7 x7) ∧ (inL r3 ∧ inL (h2 7 x7)) ∧ (r3 = (h2 7 x7) → gI wdC d mX7_wouldBeSeen 28 [some (.inr (.inr 0)), some (.inl x1), some (.inl x2), some (.inl x3), some (.inl x4), some (.inl x5), some (.inl x6), some (.inl (x7 + 1))] h2 Q) ∧ (¬ r3 = (h2 7 x7) → gI wdC d mX7_wouldBeSeen 28 [some (.inr (.inr 0)), some (.inl x1), some (.inl x2), some (.inl x3), some (.inl x4), some (.inl x5), some (.inl 0), some (.inl (x7 + 1))] h2 Q)))) :
    gI wdC d mX7_wouldBeSeen 28 [some (.inr (.inr 0)), some (.inl x1), some (.inl x2), some (.inl x3), some (.inl x4), some (.inl x5), some (.inl x6), some (.inl x7)] h Q := by
  unfold gI
  refine x_iload (pc := 28) (show decode mX7_wouldBeSeen.2.1 28 = .ok (.iload 7, 2) by decide +kernel) rfl ?_
  refine x_iconst (pc := 30) (n := 2) (show decode mX7_wouldBeSeen.2.1 30 = .ok (.iconst 2, 1) by decide +kernel) ?_
  refine x_aload_n (pc := 31) (show decode mX7_wouldBeSeen.2.1 31 = .ok (.aload_n 0, 1) by decide +kernel) rfl rfl ?_
  refine x_getR (pc := 32) f7_12 rfl rfl (show decode mX7_wouldBeSeen.2.1 32 = .ok (.getfield 12, 3) by decide +kernel) ?_
  refine x_getI (pc := 35) (ki := 0) f7_86 rfl rfl (by decide) rfl (show decode mX7_wouldBeSeen.2.1 35 = .ok (.getfield 86, 3) by decide +kernel) ?_
  refine x_imul (pc := 38) (show decode mX7_wouldBeSeen.2.1 38 = .ok (.imul, 1) by decide +kernel) ?_
  obtain ⟨hg, hR⟩ := hR
  refine x_icmp_ge (pc := 39) (tgt := 79) (show decode mX7_wouldBeSeen.2.1 39 = .ok (.if_icmp .ge 40, 3) by decide +kernel) (by decide) ⟨hg.1, hg.2⟩ (fun hc => ?_) (fun hc => ?_)
  · replace hR := hR.1 hc
    refine x_aload_n (pc := 79) (show decode mX7_wouldBeSeen.2.1 79 = .ok (.aload_n 0, 1) by decide +kernel) rfl rfl ?_
    refine x_getR (pc := 80) f7_21 rfl rfl (show decode mX7_wouldBeSeen.2.1 80 = .ok (.getfield 21, 3) by decide +kernel) ?_
    refine x_iload_n (pc := 83) (show decode mX7_wouldBeSeen.2.1 83 = .ok (.iload_n 1, 1) by decide +kernel) rfl rfl ?_
    refine x_iload (pc := 84) (show decode mX7_wouldBeSeen.2.1 84 = .ok (.iload 5, 2) by decide +kernel) rfl ?_
    refine x_iload_n (pc := 86) (show decode mX7_wouldBeSeen.2.1 86 = .ok (.iload_n 2, 1) by decide +kernel) rfl rfl ?_
    refine x_callV (pc := 87) (As := [.inl x1, .inl x5, .inl x2]) (rest := []) (lk7_207 rfl) im_X0_unwork sl_X0_unwork rfl rfl rfl (Nat.le_of_ble_eq_true rfl) (Nat.le_of_ble_eq_true rfl) (show decode mX7_wouldBeSeen.2.1 87 = .ok (.invokevirtual 207, 3) by decide +kernel) hd hR (fun r9 h1 hq => ?_)
    obtain ⟨rfl, hR⟩ := hq
    show xG _ _ _ 90 _ [] _ _
    refine x_iload (pc := 90) (show decode mX7_wouldBeSeen.2.1 90 = .ok (.iload 6, 2) by decide +kernel) rfl ?_
    exact x_zret (pc := 92) rfl (show decode mX7_wouldBeSeen.2.1 92 = .ok (.ireturn, 1) by decide +kernel) hR.1 ⟨_, rfl, hR.2⟩
  · replace hR := hR.2 hc
    refine x_aload_n (pc := 42) (show decode mX7_wouldBeSeen.2.1 42 = .ok (.aload_n 0, 1) by decide +kernel) rfl rfl ?_
    refine x_getR (pc := 43) f7_69 rfl rfl (show decode mX7_wouldBeSeen.2.1 43 = .ok (.getfield 69, 3) by decide +kernel) ?_
    refine x_iload_n (pc := 46) (show decode mX7_wouldBeSeen.2.1 46 = .ok (.iload_n 3, 1) by decide +kernel) rfl rfl ?_
    refine x_iload (pc := 47) (show decode mX7_wouldBeSeen.2.1 47 = .ok (.iload 4, 2) by decide +kernel) rfl ?_
    refine x_iload (pc := 49) (show decode mX7_wouldBeSeen.2.1 49 = .ok (.iload 7, 2) by decide +kernel) rfl ?_
    refine x_iadd (pc := 51) (show decode mX7_wouldBeSeen.2.1 51 = .ok (.iadd, 1) by decide +kernel) ?_
    refine x_callV (pc := 52) (As := [.inl x3, .inl (x4 + x7)]) (rest := []) (lk7_329 rfl) im_X4_at sl_X4_at rfl rfl rfl (Nat.le_of_ble_eq_true rfl) (Nat.le_of_ble_eq_true rfl) (show decode mX7_wouldBeSeen.2.1 52 = .ok (.invokevirtual 329, 3) by decide +kernel) hd hR (fun r9 h2 hq => ?_)
    obtain ⟨r3, rfl, hR⟩ := hq
    show xG _ _ _ 55 _ [.inr (.inl r3)] _ _
    refine x_aload_n (pc := 55) (show decode mX7_wouldBeSeen.2.1 55 = .ok (.aload_n 0, 1) by decide +kernel) rfl rfl ?_
    refine x_getR (pc := 56) f7_21 rfl rfl (show decode mX7_wouldBeSeen.2.1 56 = .ok (.getfield 21, 3) by decide +kernel) ?_
    refine x_getR (pc := 59) f7_211 rfl rfl (show decode mX7_wouldBeSeen.2.1 59 = .ok (.getfield 211, 3) by decide +kernel) ?_
    refine x_iload (pc := 62) (show decode mX7_wouldBeSeen.2.1 62 = .ok (.iload 7, 2) by decide +kernel) rfl ?_
    obtain ⟨hg, hR⟩ := hR
    refine x_iald (pc := 64) rfl (by decide) hg (show decode mX7_wouldBeSeen.2.1 64 = .ok (.iaload, 1) by decide +kernel) ?_
    obtain ⟨hg, hR⟩ := hR
    refine x_i2l (pc := 65) (show decode mX7_wouldBeSeen.2.1 65 = .ok (.i2l, 1) by decide +kernel) hg ?_
    obtain ⟨hg, hR⟩ := hR
    refine x_lcmp (pc := 66) (show decode mX7_wouldBeSeen.2.1 66 = .ok (.lcmp, 1) by decide +kernel) ⟨hg.1, hg.2⟩ ?_
    refine x_if_eq (pc := 67) (tgt := 73) (show decode mX7_wouldBeSeen.2.1 67 = .ok (.ifCond .eq 6, 3) by decide +kernel) (by decide) (xcmp_in _ _) (fun hc => ?_) (fun hc => ?_)
    · replace hR := hR.1 (xcmp_eq.mp hc)
      refine x_iinc (pc := 73) (ls' := [some (.inr (.inr 0)), some (.inl x1), some (.inl x2), some (.inl x3), some (.inl x4), some (.inl x5), some (.inl x6), some (.inl (x7 + 1))]) (show decode mX7_wouldBeSeen.2.1 73 = .ok (.iinc 7 1, 3) by decide +kernel) (by decide) rfl rfl ?_
      refine x_goto (pc := 76) (tgt := 28) (show decode mX7_wouldBeSeen.2.1 76 = .ok (.goto (-48), 3) by decide +kernel) (by decide) ?_
      exact hR
    · replace hR := hR.2 (fun z => hc (xcmp_eq.mpr z))
      refine x_iconst (pc := 70) (n := 0) (show decode mX7_wouldBeSeen.2.1 70 = .ok (.iconst 0, 1) by decide +kernel) ?_
      refine x_istore (pc := 71) (ls' := [some (.inr (.inr 0)), some (.inl x1), some (.inl x2), some (.inl x3), some (.inl x4), some (.inl x5), some (.inl 0), some (.inl x7)]) (show decode mX7_wouldBeSeen.2.1 71 = .ok (.istore 6, 2) by decide +kernel) (by decide) rfl ?_
      refine x_iinc (pc := 73) (ls' := [some (.inr (.inr 0)), some (.inl x1), some (.inl x2), some (.inl x3), some (.inl x4), some (.inl x5), some (.inl 0), some (.inl (x7 + 1))]) (show decode mX7_wouldBeSeen.2.1 73 = .ok (.iinc 7 1, 3) by decide +kernel) (by decide) rfl rfl ?_
      refine x_goto (pc := 76) (tgt := 28) (show decode mX7_wouldBeSeen.2.1 76 = .ok (.goto (-48), 3) by decide +kernel) (by decide) ?_
      exact hR
set_option maxRecDepth 4000 in
theorem sg_X7_tellPart_0 {d : Nat} {x1 : Int} {h : xH} {Q : Int → xH → Prop} (hd : 1 ≤ d)
    (hR : (0 ≤ x1 ∧ x1 < 20) ∧ (0 ≤ x1 ∧ x1 < 20) ∧ (0 ≤ x1 ∧ x1 < 20) ∧ inI (h 46 x1) ∧ ((h 46 x1) = 0 → (0 ≤ x1 ∧ x1 < 20) ∧ cI wdC (d - 1) mX7_pin [.inr (.inr 0), .inl (h 47 x1), .inl (h 48 x1), .inl (h 49 x1)] h (fun r2 h1 => Q r2 h1)) ∧ ((h 46 x1) = 1 → cI wdC (d - 1) mX7_turn [.inr (.inr 0), .inl (h 47 x1), .inl (h 48 x1)] h (fun r4 h3 => Q r4 h3)) ∧ ((h 46 x1) = 2 → cI wdC (d - 1) mX7_fill [.inr (.inr 0), .inl (h 47 x1), .inl 0] h (fun r6 h5 => Q r6 h5)) ∧ (((h 46 x1) < 0 ∨ 2 < (h 46 x1)) → cI wdC (d - 1) mX7_fill [.inr (.inr 0), .inl (h 47 x1), .inl 1] h (fun r8 h7 => Q r8 h7))) :
    gI wdC d mX7_tellPart 0 [some (.inr (.inr 0)), some (.inl x1), none, none] h Q := by
  unfold gI
  refine x_aload_n (pc := 0) (show decode mX7_tellPart.2.1 0 = .ok (.aload_n 0, 1) by decide +kernel) rfl rfl ?_
  refine x_getR (pc := 1) f7_62 rfl rfl (show decode mX7_tellPart.2.1 1 = .ok (.getfield 62, 3) by decide +kernel) ?_
  refine x_getR (pc := 4) f7_361 rfl rfl (show decode mX7_tellPart.2.1 4 = .ok (.getfield 361, 3) by decide +kernel) ?_
  refine x_iload_n (pc := 7) (show decode mX7_tellPart.2.1 7 = .ok (.iload_n 1, 1) by decide +kernel) rfl rfl ?_
  obtain ⟨hg, hR⟩ := hR
  refine x_iald (pc := 8) rfl (by decide) hg (show decode mX7_tellPart.2.1 8 = .ok (.iaload, 1) by decide +kernel) ?_
  refine x_istore_n (pc := 9) (ls' := [some (.inr (.inr 0)), some (.inl x1), some (.inl (h 47 x1)), none]) (show decode mX7_tellPart.2.1 9 = .ok (.istore_n 2, 1) by decide +kernel) rfl (by decide) rfl ?_
  refine x_aload_n (pc := 10) (show decode mX7_tellPart.2.1 10 = .ok (.aload_n 0, 1) by decide +kernel) rfl rfl ?_
  refine x_getR (pc := 11) f7_62 rfl rfl (show decode mX7_tellPart.2.1 11 = .ok (.getfield 62, 3) by decide +kernel) ?_
  refine x_getR (pc := 14) f7_364 rfl rfl (show decode mX7_tellPart.2.1 14 = .ok (.getfield 364, 3) by decide +kernel) ?_
  refine x_iload_n (pc := 17) (show decode mX7_tellPart.2.1 17 = .ok (.iload_n 1, 1) by decide +kernel) rfl rfl ?_
  obtain ⟨hg, hR⟩ := hR
  refine x_iald (pc := 18) rfl (by decide) hg (show decode mX7_tellPart.2.1 18 = .ok (.iaload, 1) by decide +kernel) ?_
  refine x_istore_n (pc := 19) (ls' := [some (.inr (.inr 0)), some (.inl x1), some (.inl (h 47 x1)), some (.inl (h 48 x1))]) (show decode mX7_tellPart.2.1 19 = .ok (.istore_n 3, 1) by decide +kernel) rfl (by decide) rfl ?_
  refine x_aload_n (pc := 20) (show decode mX7_tellPart.2.1 20 = .ok (.aload_n 0, 1) by decide +kernel) rfl rfl ?_
  refine x_getR (pc := 21) f7_62 rfl rfl (show decode mX7_tellPart.2.1 21 = .ok (.getfield 62, 3) by decide +kernel) ?_
  refine x_getR (pc := 24) f7_367 rfl rfl (show decode mX7_tellPart.2.1 24 = .ok (.getfield 367, 3) by decide +kernel) ?_
  refine x_iload_n (pc := 27) (show decode mX7_tellPart.2.1 27 = .ok (.iload_n 1, 1) by decide +kernel) rfl rfl ?_
  obtain ⟨hg, hR⟩ := hR
  refine x_iald (pc := 28) rfl (by decide) hg (show decode mX7_tellPart.2.1 28 = .ok (.iaload, 1) by decide +kernel) ?_
  obtain ⟨hg, hR⟩ := hR
  rcases (show (h 46 x1) = 0 ∨ (h 46 x1) = 1 ∨ (h 46 x1) = 2 ∨ ((h 46 x1) < 0 ∨ 2 < (h 46 x1)) by omega) with hc | hc | hc | hc
  · replace hR := hR.1 hc
    refine x_tswAt (pc := 29) (n := 0) (tgt := 56) (show decode mX7_tellPart.2.1 29 = .ok (.tableswitch 57 0 2 #[27, 43, 50], 27) by decide +kernel) hg hc (by decide) rfl (by decide) ?_
    refine x_aload_n (pc := 56) (show decode mX7_tellPart.2.1 56 = .ok (.aload_n 0, 1) by decide +kernel) rfl rfl ?_
    refine x_iload_n (pc := 57) (show decode mX7_tellPart.2.1 57 = .ok (.iload_n 2, 1) by decide +kernel) rfl rfl ?_
    refine x_iload_n (pc := 58) (show decode mX7_tellPart.2.1 58 = .ok (.iload_n 3, 1) by decide +kernel) rfl rfl ?_
    refine x_aload_n (pc := 59) (show decode mX7_tellPart.2.1 59 = .ok (.aload_n 0, 1) by decide +kernel) rfl rfl ?_
    refine x_getR (pc := 60) f7_62 rfl rfl (show decode mX7_tellPart.2.1 60 = .ok (.getfield 62, 3) by decide +kernel) ?_
    refine x_getR (pc := 63) f7_370 rfl rfl (show decode mX7_tellPart.2.1 63 = .ok (.getfield 370, 3) by decide +kernel) ?_
    refine x_iload_n (pc := 66) (show decode mX7_tellPart.2.1 66 = .ok (.iload_n 1, 1) by decide +kernel) rfl rfl ?_
    obtain ⟨hg, hR⟩ := hR
    refine x_iald (pc := 67) rfl (by decide) hg (show decode mX7_tellPart.2.1 67 = .ok (.iaload, 1) by decide +kernel) ?_
    refine x_callV (pc := 68) (As := [.inl (h 47 x1), .inl (h 48 x1), .inl (h 49 x1)]) (rest := []) (lk7_373 rfl) im_X7_pin sl_X7_pin rfl rfl rfl (Nat.le_of_ble_eq_true rfl) (Nat.le_of_ble_eq_true rfl) (show decode mX7_tellPart.2.1 68 = .ok (.invokevirtual 373, 3) by decide +kernel) hd hR (fun r9 h1 hq => ?_)
    obtain ⟨r2, rfl, hR⟩ := hq
    show xG _ _ _ 71 _ [.inl r2] _ _
    exact x_iret (pc := 71) rfl (show decode mX7_tellPart.2.1 71 = .ok (.ireturn, 1) by decide +kernel) ⟨_, rfl, hR⟩
  · replace hR := hR.2.1 hc
    refine x_tswAt (pc := 29) (n := 1) (tgt := 72) (show decode mX7_tellPart.2.1 29 = .ok (.tableswitch 57 0 2 #[27, 43, 50], 27) by decide +kernel) hg hc (by decide) rfl (by decide) ?_
    refine x_aload_n (pc := 72) (show decode mX7_tellPart.2.1 72 = .ok (.aload_n 0, 1) by decide +kernel) rfl rfl ?_
    refine x_iload_n (pc := 73) (show decode mX7_tellPart.2.1 73 = .ok (.iload_n 2, 1) by decide +kernel) rfl rfl ?_
    refine x_iload_n (pc := 74) (show decode mX7_tellPart.2.1 74 = .ok (.iload_n 3, 1) by decide +kernel) rfl rfl ?_
    refine x_callV (pc := 75) (As := [.inl (h 47 x1), .inl (h 48 x1)]) (rest := []) (lk7_376 rfl) im_X7_turn sl_X7_turn rfl rfl rfl (Nat.le_of_ble_eq_true rfl) (Nat.le_of_ble_eq_true rfl) (show decode mX7_tellPart.2.1 75 = .ok (.invokevirtual 376, 3) by decide +kernel) hd hR (fun r9 h3 hq => ?_)
    obtain ⟨r4, rfl, hR⟩ := hq
    show xG _ _ _ 78 _ [.inl r4] _ _
    exact x_iret (pc := 78) rfl (show decode mX7_tellPart.2.1 78 = .ok (.ireturn, 1) by decide +kernel) ⟨_, rfl, hR⟩
  · replace hR := hR.2.2.1 hc
    refine x_tswAt (pc := 29) (n := 2) (tgt := 79) (show decode mX7_tellPart.2.1 29 = .ok (.tableswitch 57 0 2 #[27, 43, 50], 27) by decide +kernel) hg hc (by decide) rfl (by decide) ?_
    refine x_aload_n (pc := 79) (show decode mX7_tellPart.2.1 79 = .ok (.aload_n 0, 1) by decide +kernel) rfl rfl ?_
    refine x_iload_n (pc := 80) (show decode mX7_tellPart.2.1 80 = .ok (.iload_n 2, 1) by decide +kernel) rfl rfl ?_
    refine x_iconst (pc := 81) (n := 0) (show decode mX7_tellPart.2.1 81 = .ok (.iconst 0, 1) by decide +kernel) ?_
    refine x_callV (pc := 82) (As := [.inl (h 47 x1), .inl 0]) (rest := []) (lk7_379 rfl) im_X7_fill sl_X7_fill rfl rfl rfl (Nat.le_of_ble_eq_true rfl) (Nat.le_of_ble_eq_true rfl) (show decode mX7_tellPart.2.1 82 = .ok (.invokevirtual 379, 3) by decide +kernel) hd hR (fun r9 h5 hq => ?_)
    obtain ⟨r6, rfl, hR⟩ := hq
    show xG _ _ _ 85 _ [.inl r6] _ _
    exact x_iret (pc := 85) rfl (show decode mX7_tellPart.2.1 85 = .ok (.ireturn, 1) by decide +kernel) ⟨_, rfl, hR⟩
  · replace hR := hR.2.2.2 hc
    refine x_tswOut (pc := 29) (tgt := 86) (show decode mX7_tellPart.2.1 29 = .ok (.tableswitch 57 0 2 #[27, 43, 50], 27) by decide +kernel) hg hc (by decide) ?_
    refine x_aload_n (pc := 86) (show decode mX7_tellPart.2.1 86 = .ok (.aload_n 0, 1) by decide +kernel) rfl rfl ?_
    refine x_iload_n (pc := 87) (show decode mX7_tellPart.2.1 87 = .ok (.iload_n 2, 1) by decide +kernel) rfl rfl ?_
    refine x_iconst (pc := 88) (n := 1) (show decode mX7_tellPart.2.1 88 = .ok (.iconst 1, 1) by decide +kernel) ?_
    refine x_callV (pc := 89) (As := [.inl (h 47 x1), .inl 1]) (rest := []) (lk7_379 rfl) im_X7_fill sl_X7_fill rfl rfl rfl (Nat.le_of_ble_eq_true rfl) (Nat.le_of_ble_eq_true rfl) (show decode mX7_tellPart.2.1 89 = .ok (.invokevirtual 379, 3) by decide +kernel) hd hR (fun r9 h7 hq => ?_)
    obtain ⟨r8, rfl, hR⟩ := hq
    show xG _ _ _ 92 _ [.inl r8] _ _
    exact x_iret (pc := 92) rfl (show decode mX7_tellPart.2.1 92 = .ok (.ireturn, 1) by decide +kernel) ⟨_, rfl, hR⟩
set_option maxRecDepth 4000 in
theorem sg_X7_actCount_0 {d : Nat} {x0 : Int} {h : xH} {Q : Int → xH → Prop}
    (hR : inI x0 ∧ (x0 = 0 → Q 1 h) ∧ (x0 = 1 → Q 1 h) ∧ (x0 = 2 → Q 2 h) ∧ (x0 = 3 → Q 3 h) ∧ ((x0 < 0 ∨ 3 < x0) → Q 4 h)) :
    gI wdC d mX7_actCount 0 [some (.inl x0)] h Q := by
  unfold gI
  refine x_iload_n (pc := 0) (show decode mX7_actCount.2.1 0 = .ok (.iload_n 0, 1) by decide +kernel) rfl rfl ?_
  obtain ⟨hg, hR⟩ := hR
  rcases (show x0 = 0 ∨ x0 = 1 ∨ x0 = 2 ∨ x0 = 3 ∨ (x0 < 0 ∨ 3 < x0) by omega) with hc | hc | hc | hc | hc
  · replace hR := hR.1 hc
    refine x_tswAt (pc := 1) (n := 0) (tgt := 32) (show decode mX7_actCount.2.1 1 = .ok (.tableswitch 39 0 3 #[31, 33, 35, 37], 31) by decide +kernel) hg hc (by decide) rfl (by decide) ?_
    refine x_iconst (pc := 32) (n := 1) (show decode mX7_actCount.2.1 32 = .ok (.iconst 1, 1) by decide +kernel) ?_
    exact x_iret (pc := 33) rfl (show decode mX7_actCount.2.1 33 = .ok (.ireturn, 1) by decide +kernel) ⟨_, rfl, hR⟩
  · replace hR := hR.2.1 hc
    refine x_tswAt (pc := 1) (n := 1) (tgt := 34) (show decode mX7_actCount.2.1 1 = .ok (.tableswitch 39 0 3 #[31, 33, 35, 37], 31) by decide +kernel) hg hc (by decide) rfl (by decide) ?_
    refine x_iconst (pc := 34) (n := 1) (show decode mX7_actCount.2.1 34 = .ok (.iconst 1, 1) by decide +kernel) ?_
    exact x_iret (pc := 35) rfl (show decode mX7_actCount.2.1 35 = .ok (.ireturn, 1) by decide +kernel) ⟨_, rfl, hR⟩
  · replace hR := hR.2.2.1 hc
    refine x_tswAt (pc := 1) (n := 2) (tgt := 36) (show decode mX7_actCount.2.1 1 = .ok (.tableswitch 39 0 3 #[31, 33, 35, 37], 31) by decide +kernel) hg hc (by decide) rfl (by decide) ?_
    refine x_iconst (pc := 36) (n := 2) (show decode mX7_actCount.2.1 36 = .ok (.iconst 2, 1) by decide +kernel) ?_
    exact x_iret (pc := 37) rfl (show decode mX7_actCount.2.1 37 = .ok (.ireturn, 1) by decide +kernel) ⟨_, rfl, hR⟩
  · replace hR := hR.2.2.2.1 hc
    refine x_tswAt (pc := 1) (n := 3) (tgt := 38) (show decode mX7_actCount.2.1 1 = .ok (.tableswitch 39 0 3 #[31, 33, 35, 37], 31) by decide +kernel) hg hc (by decide) rfl (by decide) ?_
    refine x_iconst (pc := 38) (n := 3) (show decode mX7_actCount.2.1 38 = .ok (.iconst 3, 1) by decide +kernel) ?_
    exact x_iret (pc := 39) rfl (show decode mX7_actCount.2.1 39 = .ok (.ireturn, 1) by decide +kernel) ⟨_, rfl, hR⟩
  · replace hR := hR.2.2.2.2 hc
    refine x_tswOut (pc := 1) (tgt := 40) (show decode mX7_actCount.2.1 1 = .ok (.tableswitch 39 0 3 #[31, 33, 35, 37], 31) by decide +kernel) hg hc (by decide) ?_
    refine x_iconst (pc := 40) (n := 4) (show decode mX7_actCount.2.1 40 = .ok (.iconst 4, 1) by decide +kernel) ?_
    exact x_iret (pc := 41) rfl (show decode mX7_actCount.2.1 41 = .ok (.ireturn, 1) by decide +kernel) ⟨_, rfl, hR⟩
set_option maxRecDepth 4000 in
theorem sg_X7_isCrossAct_0 {d : Nat} {x0 x1 : Int} {h : xH} {Q : Int → xH → Prop}
    (hR : (inI x0) ∧ (x0 = 1 → Q 0 h) ∧ (¬ x0 = 1 → (inI (xandI x1 1)) ∧ (¬ (xandI x1 1) = 0 → Q 0 h) ∧ ((xandI x1 1) = 0 → Q 1 h))) :
    gI wdC d mX7_isCrossAct 0 [some (.inl x0), some (.inl x1)] h Q := by
  unfold gI
  refine x_iload_n (pc := 0) (show decode mX7_isCrossAct.2.1 0 = .ok (.iload_n 0, 1) by decide +kernel) rfl rfl ?_
  refine x_iconst (pc := 1) (n := 1) (show decode mX7_isCrossAct.2.1 1 = .ok (.iconst 1, 1) by decide +kernel) ?_
  obtain ⟨hg, hR⟩ := hR
  refine x_icmp_eq (pc := 2) (tgt := 15) (show decode mX7_isCrossAct.2.1 2 = .ok (.if_icmp .eq 13, 3) by decide +kernel) (by decide) ⟨hg, (by unfold inI; decide)⟩ (fun hc => ?_) (fun hc => ?_)
  · replace hR := hR.1 hc
    refine x_iconst (pc := 15) (n := 0) (show decode mX7_isCrossAct.2.1 15 = .ok (.iconst 0, 1) by decide +kernel) ?_
    exact x_zret (pc := 16) rfl (show decode mX7_isCrossAct.2.1 16 = .ok (.ireturn, 1) by decide +kernel) (by decide) ⟨_, rfl, hR⟩
  · replace hR := hR.2 hc
    refine x_iload_n (pc := 5) (show decode mX7_isCrossAct.2.1 5 = .ok (.iload_n 1, 1) by decide +kernel) rfl rfl ?_
    refine x_iconst (pc := 6) (n := 1) (show decode mX7_isCrossAct.2.1 6 = .ok (.iconst 1, 1) by decide +kernel) ?_
    refine x_iand (pc := 7) (show decode mX7_isCrossAct.2.1 7 = .ok (.iand, 1) by decide +kernel) ?_
    obtain ⟨hg, hR⟩ := hR
    refine x_if_ne (pc := 8) (tgt := 15) (show decode mX7_isCrossAct.2.1 8 = .ok (.ifCond .ne 7, 3) by decide +kernel) (by decide) hg (fun hc => ?_) (fun hc => ?_)
    · replace hR := hR.1 hc
      refine x_iconst (pc := 15) (n := 0) (show decode mX7_isCrossAct.2.1 15 = .ok (.iconst 0, 1) by decide +kernel) ?_
      exact x_zret (pc := 16) rfl (show decode mX7_isCrossAct.2.1 16 = .ok (.ireturn, 1) by decide +kernel) (by decide) ⟨_, rfl, hR⟩
    · replace hR := hR.2 hc
      refine x_iconst (pc := 11) (n := 1) (show decode mX7_isCrossAct.2.1 11 = .ok (.iconst 1, 1) by decide +kernel) ?_
      refine x_goto (pc := 12) (tgt := 16) (show decode mX7_isCrossAct.2.1 12 = .ok (.goto 4, 3) by decide +kernel) (by decide) ?_
      exact x_zret (pc := 16) rfl (show decode mX7_isCrossAct.2.1 16 = .ok (.ireturn, 1) by decide +kernel) (by decide) ⟨_, rfl, hR⟩
set_option maxRecDepth 4000 in
theorem sg_X7_actsOf_0 {d : Nat} {x0 x1 : Int} {h : xH} {Q : Int → xH → Prop}
    (hR : gI wdC d mX7_actsOf 4 [some (.inl x0), some (.inl x1), some (.inl 0), some (.inl 0)] h Q) :
    gI wdC d mX7_actsOf 0 [some (.inl x0), some (.inl x1), none, none] h Q := by
  unfold gI
  refine x_iconst (pc := 0) (n := 0) (show decode mX7_actsOf.2.1 0 = .ok (.iconst 0, 1) by decide +kernel) ?_
  refine x_istore_n (pc := 1) (ls' := [some (.inl x0), some (.inl x1), some (.inl 0), none]) (show decode mX7_actsOf.2.1 1 = .ok (.istore_n 2, 1) by decide +kernel) rfl (by decide) rfl ?_
  refine x_iconst (pc := 2) (n := 0) (show decode mX7_actsOf.2.1 2 = .ok (.iconst 0, 1) by decide +kernel) ?_
  refine x_istore_n (pc := 3) (ls' := [some (.inl x0), some (.inl x1), some (.inl 0), some (.inl 0)]) (show decode mX7_actsOf.2.1 3 = .ok (.istore_n 3, 1) by decide +kernel) rfl (by decide) rfl ?_
  exact hR
set_option maxRecDepth 4000 in
theorem sg_X7_actsOf_4 {d : Nat} {x0 x1 x2 x3 : Int} {h : xH} {Q : Int → xH → Prop} (hd : 1 ≤ d)
    (hR : cI wdC (d - 1) mX7_actCount [.inl x0] h (fun r2 h1 => (inI x3 ∧ inI r2) ∧ (r2 ≤ x3 → Q x2 h1) ∧ (x3 < r2 → cI wdC (d - 1) mX7_isCrossAct [.inl x0, .inl x3] h1 (fun r4 h3 => (inI r4 ∧ inI x1) ∧ (¬ r4 = x1 → gI wdC d mX7_actsOf 4 [some (.inl x0), some (.inl x1), some (.inl x2), some (.inl (x3 + 1))] h3 Q) ∧ (r4 = x1 → gI wdC d mX7_actsOf 4 [some (.inl x0), some (.inl x1), some (.inl (x2 + 1)), some (.inl (x3 + 1))] h3 Q))))) :
    gI wdC d mX7_actsOf 4 [some (.inl x0), some (.inl x1), some (.inl x2), some (.inl x3)] h Q := by
  unfold gI
  refine x_iload_n (pc := 4) (show decode mX7_actsOf.2.1 4 = .ok (.iload_n 3, 1) by decide +kernel) rfl rfl ?_
  refine x_iload_n (pc := 5) (show decode mX7_actsOf.2.1 5 = .ok (.iload_n 0, 1) by decide +kernel) rfl rfl ?_
  refine x_callS (pc := 6) (As := [.inl x0]) (rest := [.inl x3]) (lk7_382 rfl) sm_X7_actCount (Nat.le_of_ble_eq_true rfl) (Nat.le_of_ble_eq_true rfl) (show decode mX7_actsOf.2.1 6 = .ok (.invokestatic 382, 3) by decide +kernel) hd hR (fun r9 h1 hq => ?_)
  obtain ⟨r2, rfl, hR⟩ := hq
  show xG _ _ _ 9 _ [.inl r2, .inl x3] _ _
  obtain ⟨hg, hR⟩ := hR
  refine x_icmp_ge (pc := 9) (tgt := 30) (show decode mX7_actsOf.2.1 9 = .ok (.if_icmp .ge 21, 3) by decide +kernel) (by decide) ⟨hg.1, hg.2⟩ (fun hc => ?_) (fun hc => ?_)
  · replace hR := hR.1 hc
    refine x_iload_n (pc := 30) (show decode mX7_actsOf.2.1 30 = .ok (.iload_n 2, 1) by decide +kernel) rfl rfl ?_
    exact x_iret (pc := 31) rfl (show decode mX7_actsOf.2.1 31 = .ok (.ireturn, 1) by decide +kernel) ⟨_, rfl, hR⟩
  · replace hR := hR.2 hc
    refine x_iload_n (pc := 12) (show decode mX7_actsOf.2.1 12 = .ok (.iload_n 0, 1) by decide +kernel) rfl rfl ?_
    refine x_iload_n (pc := 13) (show decode mX7_actsOf.2.1 13 = .ok (.iload_n 3, 1) by decide +kernel) rfl rfl ?_
    refine x_callS (pc := 14) (As := [.inl x0, .inl x3]) (rest := []) (lk7_385 rfl) sm_X7_isCrossAct (Nat.le_of_ble_eq_true rfl) (Nat.le_of_ble_eq_true rfl) (show decode mX7_actsOf.2.1 14 = .ok (.invokestatic 385, 3) by decide +kernel) hd hR (fun r9 h3 hq => ?_)
    obtain ⟨r4, rfl, hR⟩ := hq
    show xG _ _ _ 17 _ [.inl r4] _ _
    refine x_iload_n (pc := 17) (show decode mX7_actsOf.2.1 17 = .ok (.iload_n 1, 1) by decide +kernel) rfl rfl ?_
    obtain ⟨hg, hR⟩ := hR
    refine x_icmp_ne (pc := 18) (tgt := 24) (show decode mX7_actsOf.2.1 18 = .ok (.if_icmp .ne 6, 3) by decide +kernel) (by decide) ⟨hg.1, hg.2⟩ (fun hc => ?_) (fun hc => ?_)
    · replace hR := hR.1 hc
      refine x_iinc (pc := 24) (ls' := [some (.inl x0), some (.inl x1), some (.inl x2), some (.inl (x3 + 1))]) (show decode mX7_actsOf.2.1 24 = .ok (.iinc 3 1, 3) by decide +kernel) (by decide) rfl rfl ?_
      refine x_goto (pc := 27) (tgt := 4) (show decode mX7_actsOf.2.1 27 = .ok (.goto (-23), 3) by decide +kernel) (by decide) ?_
      exact hR
    · replace hR := hR.2 hc
      refine x_iinc (pc := 21) (ls' := [some (.inl x0), some (.inl x1), some (.inl (x2 + 1)), some (.inl x3)]) (show decode mX7_actsOf.2.1 21 = .ok (.iinc 2 1, 3) by decide +kernel) (by decide) rfl rfl ?_
      refine x_iinc (pc := 24) (ls' := [some (.inl x0), some (.inl x1), some (.inl (x2 + 1)), some (.inl (x3 + 1))]) (show decode mX7_actsOf.2.1 24 = .ok (.iinc 3 1, 3) by decide +kernel) (by decide) rfl rfl ?_
      refine x_goto (pc := 27) (tgt := 4) (show decode mX7_actsOf.2.1 27 = .ok (.goto (-23), 3) by decide +kernel) (by decide) ?_
      exact hR
