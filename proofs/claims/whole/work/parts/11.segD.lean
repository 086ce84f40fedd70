/-! segments: what a method does from one cut point to the next (written by wip/whole/seg.py) -/
set_option maxRecDepth 4000 in
theorem sg_X5_append_0 {d : Nat} {x1 : Int} {h : xH} {Q : Int → xH → Prop}
    (hR : (inI (h 44 1)) ∧ ((h 44 1) < 120 → (0 ≤ (h 44 1) ∧ (h 44 1) < 120) ∧ Q 1 (xu (xu h 45 (h 44 1) x1) 44 1 ((h 44 1) + 1))) ∧ (120 ≤ (h 44 1) → Q 0 h)) :
    gI wdC d mX5_append 0 [some (.inr (.inr 44)), some (.inl x1)] h Q := by
  unfold gI
  refine x_aload_n (pc := 0) (show decode mX5_append.2.1 0 = .ok (.aload_n 0, 1) by decide +kernel) rfl rfl ?_
  refine x_getI (pc := 1) (ki := 1) f5_15 rfl rfl (by decide) rfl (show decode mX5_append.2.1 1 = .ok (.getfield 15, 3) by decide +kernel) ?_
  refine x_bipush (pc := 4) (n := 120) (show decode mX5_append.2.1 4 = .ok (.bipush 120, 2) by decide +kernel) rfl ?_
  obtain ⟨hg, hR⟩ := hR
  refine x_icmp_lt (pc := 6) (tgt := 11) (show decode mX5_append.2.1 6 = .ok (.if_icmp .lt 5, 3) by decide +kernel) (by decide) ⟨hg, (by unfold inI; decide)⟩ (fun hc => ?_) (fun hc => ?_)
  · replace hR := hR.1 hc
    refine x_aload_n (pc := 11) (show decode mX5_append.2.1 11 = .ok (.aload_n 0, 1) by decide +kernel) rfl rfl ?_
    refine x_getR (pc := 12) f5_9 rfl rfl (show decode mX5_append.2.1 12 = .ok (.getfield 9, 3) by decide +kernel) ?_
    refine x_aload_n (pc := 15) (show decode mX5_append.2.1 15 = .ok (.aload_n 0, 1) by decide +kernel) rfl rfl ?_
    refine x_getI (pc := 16) (ki := 1) f5_15 rfl rfl (by decide) rfl (show decode mX5_append.2.1 16 = .ok (.getfield 15, 3) by decide +kernel) ?_
    refine x_iload_n (pc := 19) (show decode mX5_append.2.1 19 = .ok (.iload_n 1, 1) by decide +kernel) rfl rfl ?_
    obtain ⟨hg, hR⟩ := hR
    refine x_iast (pc := 20) rfl (by decide) hg (show decode mX5_append.2.1 20 = .ok (.iastore, 1) by decide +kernel) ?_
    refine x_aload_n (pc := 21) (show decode mX5_append.2.1 21 = .ok (.aload_n 0, 1) by decide +kernel) rfl rfl ?_
    refine x_dup (pc := 22) (show decode mX5_append.2.1 22 = .ok (.dup, 1) by decide +kernel) rfl ?_
    refine x_getI (pc := 23) (ki := 1) f5_15 rfl rfl (by decide) rfl (show decode mX5_append.2.1 23 = .ok (.getfield 15, 3) by decide +kernel) ?_
    refine x_iconst (pc := 26) (n := 1) (show decode mX5_append.2.1 26 = .ok (.iconst 1, 1) by decide +kernel) ?_
    refine x_iadd (pc := 27) (show decode mX5_append.2.1 27 = .ok (.iadd, 1) by decide +kernel) ?_
    refine x_putI (pc := 28) (ki := 1) f5_15 fp5_1 rfl rfl rfl (show decode mX5_append.2.1 28 = .ok (.putfield 15, 3) by decide +kernel) ?_
    refine x_iconst (pc := 31) (n := 1) (show decode mX5_append.2.1 31 = .ok (.iconst 1, 1) by decide +kernel) ?_
    exact x_zret (pc := 32) rfl (show decode mX5_append.2.1 32 = .ok (.ireturn, 1) by decide +kernel) (by decide) ⟨_, rfl, hR⟩
  · replace hR := hR.2 hc
    refine x_iconst (pc := 9) (n := 0) (show decode mX5_append.2.1 9 = .ok (.iconst 0, 1) by decide +kernel) ?_
    exact x_zret (pc := 10) rfl (show decode mX5_append.2.1 10 = .ok (.ireturn, 1) by decide +kernel) (by decide) ⟨_, rfl, hR⟩
set_option maxRecDepth 4000 in
theorem sg_X5_read_0 {d : Nat} {h : xH} {Q : xH → Prop}
    (hR : gV wdC d mX5_read 17 [some (.inr (.inr 44)), some (.inl 0)] (xu (xu (xu h 44 2 0) 44 3 (-1)) 44 4 0) Q) :
    gV wdC d mX5_read 0 [some (.inr (.inr 44)), none] h Q := by
  unfold gV
  refine x_aload_n (pc := 0) (show decode mX5_read.2.1 0 = .ok (.aload_n 0, 1) by decide +kernel) rfl rfl ?_
  refine x_iconst (pc := 1) (n := 0) (show decode mX5_read.2.1 1 = .ok (.iconst 0, 1) by decide +kernel) ?_
  refine x_putI (pc := 2) (ki := 2) f5_19 fp5_2 rfl rfl rfl (show decode mX5_read.2.1 2 = .ok (.putfield 19, 3) by decide +kernel) ?_
  refine x_aload_n (pc := 5) (show decode mX5_read.2.1 5 = .ok (.aload_n 0, 1) by decide +kernel) rfl rfl ?_
  refine x_iconst (pc := 6) (n := (-1)) (show decode mX5_read.2.1 6 = .ok (.iconst (-1), 1) by decide +kernel) ?_
  refine x_putI (pc := 7) (ki := 3) f5_22 fp5_3 rfl rfl rfl (show decode mX5_read.2.1 7 = .ok (.putfield 22, 3) by decide +kernel) ?_
  refine x_aload_n (pc := 10) (show decode mX5_read.2.1 10 = .ok (.aload_n 0, 1) by decide +kernel) rfl rfl ?_
  refine x_iconst (pc := 11) (n := 0) (show decode mX5_read.2.1 11 = .ok (.iconst 0, 1) by decide +kernel) ?_
  refine x_putI (pc := 12) (ki := 4) f5_25 fp5_4 rfl rfl rfl (show decode mX5_read.2.1 12 = .ok (.putfield 25, 3) by decide +kernel) ?_
  refine x_iconst (pc := 15) (n := 0) (show decode mX5_read.2.1 15 = .ok (.iconst 0, 1) by decide +kernel) ?_
  refine x_istore_n (pc := 16) (ls' := [some (.inr (.inr 44)), some (.inl 0)]) (show decode mX5_read.2.1 16 = .ok (.istore_n 1, 1) by decide +kernel) rfl (by decide) rfl ?_
  exact hR
set_option maxRecDepth 4000 in
theorem sg_X5_read_17 {d : Nat} {x1 : Int} {h : xH} {Q : xH → Prop} (hd : 1 ≤ d)
    (hR : (inI x1) ∧ (20 ≤ x1 → Q h) ∧ (x1 < 20 → cV wdC (d - 1) mX5_readPart [.inr (.inr 44), .inl x1] h (fun h1 => (inI (h1 44 3)) ∧ (0 ≤ (h1 44 3) → Q (xu h1 44 4 (x1 + 1))) ∧ ((h1 44 3) < 0 → (inI (h1 44 2) ∧ inI (h1 44 1)) ∧ ((h1 44 2) < (h1 44 1) → cV wdC (d - 1) mX5_expect [.inr (.inr 44), .inl 59] (xu h1 44 4 (x1 + 1)) (fun h2 => (inI (h2 44 3)) ∧ ((h2 44 3) < 0 → gV wdC d mX5_read 17 [some (.inr (.inr 44)), some (.inl (x1 + 1))] h2 Q) ∧ (0 ≤ (h2 44 3) → Q h2))) ∧ ((h1 44 1) ≤ (h1 44 2) → Q (xu h1 44 4 (x1 + 1))))))) :
    gV wdC d mX5_read 17 [some (.inr (.inr 44)), some (.inl x1)] h Q := by
  unfold gV
  refine x_iload_n (pc := 17) (show decode mX5_read.2.1 17 = .ok (.iload_n 1, 1) by decide +kernel) rfl rfl ?_
  refine x_bipush (pc := 18) (n := 20) (show decode mX5_read.2.1 18 = .ok (.bipush 20, 2) by decide +kernel) rfl ?_
  obtain ⟨hg, hR⟩ := hR
  refine x_icmp_ge (pc := 20) (tgt := 74) (show decode mX5_read.2.1 20 = .ok (.if_icmp .ge 54, 3) by decide +kernel) (by decide) ⟨hg, (by unfold inI; decide)⟩ (fun hc => ?_) (fun hc => ?_)
  · replace hR := hR.1 hc
    exact x_vret (pc := 74) rfl (show decode mX5_read.2.1 74 = .ok (.return_, 1) by decide +kernel) ⟨rfl, hR⟩
  · replace hR := hR.2 hc
    refine x_aload_n (pc := 23) (show decode mX5_read.2.1 23 = .ok (.aload_n 0, 1) by decide +kernel) rfl rfl ?_
    refine x_iload_n (pc := 24) (show decode mX5_read.2.1 24 = .ok (.iload_n 1, 1) by decide +kernel) rfl rfl ?_
    refine x_callV (pc := 25) (As := [.inl x1]) (rest := []) (lk5_40 rfl) im_X5_readPart sl_X5_readPart rfl rfl rfl (Nat.le_of_ble_eq_true rfl) (Nat.le_of_ble_eq_true rfl) (show decode mX5_read.2.1 25 = .ok (.invokevirtual 40, 3) by decide +kernel) hd hR (fun r9 h1 hq => ?_)
    obtain ⟨rfl, hR⟩ := hq
    show xG _ _ _ 28 _ [] _ _
    refine x_aload_n (pc := 28) (show decode mX5_read.2.1 28 = .ok (.aload_n 0, 1) by decide +kernel) rfl rfl ?_
    refine x_iload_n (pc := 29) (show decode mX5_read.2.1 29 = .ok (.iload_n 1, 1) by decide +kernel) rfl rfl ?_
    refine x_iconst (pc := 30) (n := 1) (show decode mX5_read.2.1 30 = .ok (.iconst 1, 1) by decide +kernel) ?_
    refine x_iadd (pc := 31) (show decode mX5_read.2.1 31 = .ok (.iadd, 1) by decide +kernel) ?_
    refine x_putI (pc := 32) (ki := 4) f5_25 fp5_4 rfl rfl rfl (show decode mX5_read.2.1 32 = .ok (.putfield 25, 3) by decide +kernel) ?_
    refine x_aload_n (pc := 35) (show decode mX5_read.2.1 35 = .ok (.aload_n 0, 1) by decide +kernel) rfl rfl ?_
    refine x_getI (pc := 36) (ki := 3) f5_22 rfl rfl (by decide) rfl (show decode mX5_read.2.1 36 = .ok (.getfield 22, 3) by decide +kernel) ?_
    obtain ⟨hg, hR⟩ := hR
    refine x_if_ge (pc := 39) (tgt := 53) (show decode mX5_read.2.1 39 = .ok (.ifCond .ge 14, 3) by decide +kernel) (by decide) hg (fun hc => ?_) (fun hc => ?_)
    · replace hR := hR.1 hc
      exact x_vret (pc := 53) rfl (show decode mX5_read.2.1 53 = .ok (.return_, 1) by decide +kernel) ⟨rfl, hR⟩
    · replace hR := hR.2 hc
      refine x_aload_n (pc := 42) (show decode mX5_read.2.1 42 = .ok (.aload_n 0, 1) by decide +kernel) rfl rfl ?_
      refine x_getI (pc := 43) (ki := 2) f5_19 rfl rfl (by decide) rfl (show decode mX5_read.2.1 43 = .ok (.getfield 19, 3) by decide +kernel) ?_
      refine x_aload_n (pc := 46) (show decode mX5_read.2.1 46 = .ok (.aload_n 0, 1) by decide +kernel) rfl rfl ?_
      refine x_getI (pc := 47) (ki := 1) f5_15 rfl rfl (by decide) rfl (show decode mX5_read.2.1 47 = .ok (.getfield 15, 3) by decide +kernel) ?_
      obtain ⟨hg, hR⟩ := hR
      refine x_icmp_lt (pc := 50) (tgt := 54) (show decode mX5_read.2.1 50 = .ok (.if_icmp .lt 4, 3) by decide +kernel) (by decide) ⟨hg.1, hg.2⟩ (fun hc => ?_) (fun hc => ?_)
      · replace hR := hR.1 hc
        refine x_aload_n (pc := 54) (show decode mX5_read.2.1 54 = .ok (.aload_n 0, 1) by decide +kernel) rfl rfl ?_
        refine x_bipush (pc := 55) (n := 59) (show decode mX5_read.2.1 55 = .ok (.bipush 59, 2) by decide +kernel) rfl ?_
        refine x_callV (pc := 57) (As := [.inl 59]) (rest := []) (lk5_44 rfl) im_X5_expect sl_X5_expect rfl rfl rfl (Nat.le_of_ble_eq_true rfl) (Nat.le_of_ble_eq_true rfl) (show decode mX5_read.2.1 57 = .ok (.invokevirtual 44, 3) by decide +kernel) hd hR (fun r9 h2 hq => ?_)
        obtain ⟨rfl, hR⟩ := hq
        show xG _ _ _ 60 _ [] _ _
        refine x_aload_n (pc := 60) (show decode mX5_read.2.1 60 = .ok (.aload_n 0, 1) by decide +kernel) rfl rfl ?_
        refine x_getI (pc := 61) (ki := 3) f5_22 rfl rfl (by decide) rfl (show decode mX5_read.2.1 61 = .ok (.getfield 22, 3) by decide +kernel) ?_
        obtain ⟨hg, hR⟩ := hR
        refine x_if_lt (pc := 64) (tgt := 68) (show decode mX5_read.2.1 64 = .ok (.ifCond .lt 4, 3) by decide +kernel) (by decide) hg (fun hc => ?_) (fun hc => ?_)
        · replace hR := hR.1 hc
          refine x_iinc (pc := 68) (ls' := [some (.inr (.inr 44)), some (.inl (x1 + 1))]) (show decode mX5_read.2.1 68 = .ok (.iinc 1 1, 3) by decide +kernel) (by decide) rfl rfl ?_
          refine x_goto (pc := 71) (tgt := 17) (show decode mX5_read.2.1 71 = .ok (.goto (-54), 3) by decide +kernel) (by decide) ?_
          exact hR
        · replace hR := hR.2 hc
          exact x_vret (pc := 67) rfl (show decode mX5_read.2.1 67 = .ok (.return_, 1) by decide +kernel) ⟨rfl, hR⟩
      · replace hR := hR.2 hc
        exact x_vret (pc := 53) rfl (show decode mX5_read.2.1 53 = .ok (.return_, 1) by decide +kernel) ⟨rfl, hR⟩
set_option maxRecDepth 4000 in
theorem sg_X5_readPart_0 {d : Nat} {x1 : Int} {h : xH} {Q : xH → Prop} (hd : 1 ≤ d)
    (hR : cI wdC (d - 1) mX5_readKind [.inr (.inr 44)] h (fun r2 h1 => (0 ≤ x1 ∧ x1 < 20) ∧ (inI (h1 44 3)) ∧ ((h1 44 3) < 0 → cI wdC (d - 1) mX5_readNumber [.inr (.inr 44)] (xu h1 46 x1 r2) (fun r4 h3 => (0 ≤ x1 ∧ x1 < 20) ∧ (0 ≤ x1 ∧ x1 < 20) ∧ (inI (h3 46 x1)) ∧ ((h3 46 x1) = 0 → cI wdC (d - 1) mX5_readNumber [.inr (.inr 44)] (xu h3 47 x1 r4) (fun r6 h5 => (0 ≤ x1 ∧ x1 < 20) ∧ (0 ≤ x1 ∧ x1 < 20) ∧ (inI (h5 46 x1)) ∧ (¬ (h5 46 x1) = 0 → Q (xu h5 48 x1 r6)) ∧ ((h5 46 x1) = 0 → cI wdC (d - 1) mX5_readStitch [.inr (.inr 44)] (xu h5 48 x1 r6) (fun r8 h7 => (0 ≤ x1 ∧ x1 < 20) ∧ Q (xu h7 49 x1 r8))))) ∧ (¬ (h3 46 x1) = 0 → (0 ≤ x1 ∧ x1 < 20) ∧ (inI (h3 46 x1)) ∧ (¬ (h3 46 x1) = 1 → (0 ≤ x1 ∧ x1 < 20) ∧ (inI (h3 46 x1)) ∧ (¬ (h3 46 x1) = 0 → Q (xu h3 47 x1 r4)) ∧ ((h3 46 x1) = 0 → cI wdC (d - 1) mX5_readStitch [.inr (.inr 44)] (xu h3 47 x1 r4) (fun r10 h9 => (0 ≤ x1 ∧ x1 < 20) ∧ Q (xu h9 49 x1 r10)))) ∧ ((h3 46 x1) = 1 → cI wdC (d - 1) mX5_readNumber [.inr (.inr 44)] (xu h3 47 x1 r4) (fun r12 h11 => (0 ≤ x1 ∧ x1 < 20) ∧ (0 ≤ x1 ∧ x1 < 20) ∧ (inI (h11 46 x1)) ∧ (¬ (h11 46 x1) = 0 → Q (xu h11 48 x1 r12)) ∧ ((h11 46 x1) = 0 → cI wdC (d - 1) mX5_readStitch [.inr (.inr 44)] (xu h11 48 x1 r12) (fun r14 h13 => (0 ≤ x1 ∧ x1 < 20) ∧ Q (xu h13 49 x1 r14)))))))) ∧ (0 ≤ (h1 44 3) → Q (xu h1 46 x1 r2)))) :
    gV wdC d mX5_readPart 0 [some (.inr (.inr 44)), some (.inl x1)] h Q := by
  unfold gV
  refine x_aload_n (pc := 0) (show decode mX5_readPart.2.1 0 = .ok (.aload_n 0, 1) by decide +kernel) rfl rfl ?_
  refine x_getR (pc := 1) f5_28 rfl rfl (show decode mX5_readPart.2.1 1 = .ok (.getfield 28, 3) by decide +kernel) ?_
  refine x_iload_n (pc := 4) (show decode mX5_readPart.2.1 4 = .ok (.iload_n 1, 1) by decide +kernel) rfl rfl ?_
  refine x_aload_n (pc := 5) (show decode mX5_readPart.2.1 5 = .ok (.aload_n 0, 1) by decide +kernel) rfl rfl ?_
  refine x_callV (pc := 6) (As := []) (rest := [.inl x1, .inr (.inr 46)]) (lk5_47 rfl) im_X5_readKind sl_X5_readKind rfl rfl rfl (Nat.le_of_ble_eq_true rfl) (Nat.le_of_ble_eq_true rfl) (show decode mX5_readPart.2.1 6 = .ok (.invokevirtual 47, 3) by decide +kernel) hd hR (fun r9 h1 hq => ?_)
  obtain ⟨r2, rfl, hR⟩ := hq
  show xG _ _ _ 9 _ [.inl r2, .inl x1, .inr (.inr 46)] _ _
  obtain ⟨hg, hR⟩ := hR
  refine x_iast (pc := 9) rfl (by decide) hg (show decode mX5_readPart.2.1 9 = .ok (.iastore, 1) by decide +kernel) ?_
  refine x_aload_n (pc := 10) (show decode mX5_readPart.2.1 10 = .ok (.aload_n 0, 1) by decide +kernel) rfl rfl ?_
  refine x_getI (pc := 11) (ki := 3) f5_22 rfl rfl (by decide) rfl (show decode mX5_readPart.2.1 11 = .ok (.getfield 22, 3) by decide +kernel) ?_
  obtain ⟨hg, hR⟩ := hR
  refine x_if_lt (pc := 14) (tgt := 18) (show decode mX5_readPart.2.1 14 = .ok (.ifCond .lt 4, 3) by decide +kernel) (by decide) hg (fun hc => ?_) (fun hc => ?_)
  · replace hR := hR.1 hc
    refine x_aload_n (pc := 18) (show decode mX5_readPart.2.1 18 = .ok (.aload_n 0, 1) by decide +kernel) rfl rfl ?_
    refine x_getR (pc := 19) f5_31 rfl rfl (show decode mX5_readPart.2.1 19 = .ok (.getfield 31, 3) by decide +kernel) ?_
    refine x_iload_n (pc := 22) (show decode mX5_readPart.2.1 22 = .ok (.iload_n 1, 1) by decide +kernel) rfl rfl ?_
    refine x_aload_n (pc := 23) (show decode mX5_readPart.2.1 23 = .ok (.aload_n 0, 1) by decide +kernel) rfl rfl ?_
    refine x_callV (pc := 24) (As := []) (rest := [.inl x1, .inr (.inr 47)]) (lk5_51 rfl) im_X5_readNumber sl_X5_readNumber rfl rfl rfl (Nat.le_of_ble_eq_true rfl) (Nat.le_of_ble_eq_true rfl) (show decode mX5_readPart.2.1 24 = .ok (.invokevirtual 51, 3) by decide +kernel) hd hR (fun r9 h3 hq => ?_)
    obtain ⟨r4, rfl, hR⟩ := hq
    show xG _ _ _ 27 _ [.inl r4, .inl x1, .inr (.inr 47)] _ _
    obtain ⟨hg, hR⟩ := hR
    refine x_iast (pc := 27) rfl (by decide) hg (show decode mX5_readPart.2.1 27 = .ok (.iastore, 1) by decide +kernel) ?_
    refine x_aload_n (pc := 28) (show decode mX5_readPart.2.1 28 = .ok (.aload_n 0, 1) by decide +kernel) rfl rfl ?_
    refine x_getR (pc := 29) f5_28 rfl rfl (show decode mX5_readPart.2.1 29 = .ok (.getfield 28, 3) by decide +kernel) ?_
    refine x_iload_n (pc := 32) (show decode mX5_readPart.2.1 32 = .ok (.iload_n 1, 1) by decide +kernel) rfl rfl ?_
    obtain ⟨hg, hR⟩ := hR
    refine x_iald (pc := 33) rfl (by decide) hg (show decode mX5_readPart.2.1 33 = .ok (.iaload, 1) by decide +kernel) ?_
    obtain ⟨hg, hR⟩ := hR
    refine x_if_eq (pc := 34) (tgt := 47) (show decode mX5_readPart.2.1 34 = .ok (.ifCond .eq 13, 3) by decide +kernel) (by decide) hg (fun hc => ?_) (fun hc => ?_)
    · replace hR := hR.1 hc
      refine x_aload_n (pc := 47) (show decode mX5_readPart.2.1 47 = .ok (.aload_n 0, 1) by decide +kernel) rfl rfl ?_
      refine x_getR (pc := 48) f5_34 rfl rfl (show decode mX5_readPart.2.1 48 = .ok (.getfield 34, 3) by decide +kernel) ?_
      refine x_iload_n (pc := 51) (show decode mX5_readPart.2.1 51 = .ok (.iload_n 1, 1) by decide +kernel) rfl rfl ?_
      refine x_aload_n (pc := 52) (show decode mX5_readPart.2.1 52 = .ok (.aload_n 0, 1) by decide +kernel) rfl rfl ?_
      refine x_callV (pc := 53) (As := []) (rest := [.inl x1, .inr (.inr 48)]) (lk5_51 rfl) im_X5_readNumber sl_X5_readNumber rfl rfl rfl (Nat.le_of_ble_eq_true rfl) (Nat.le_of_ble_eq_true rfl) (show decode mX5_readPart.2.1 53 = .ok (.invokevirtual 51, 3) by decide +kernel) hd hR (fun r9 h5 hq => ?_)
      obtain ⟨r6, rfl, hR⟩ := hq
      show xG _ _ _ 56 _ [.inl r6, .inl x1, .inr (.inr 48)] _ _
      obtain ⟨hg, hR⟩ := hR
      refine x_iast (pc := 56) rfl (by decide) hg (show decode mX5_readPart.2.1 56 = .ok (.iastore, 1) by decide +kernel) ?_
      refine x_aload_n (pc := 57) (show decode mX5_readPart.2.1 57 = .ok (.aload_n 0, 1) by decide +kernel) rfl rfl ?_
      refine x_getR (pc := 58) f5_28 rfl rfl (show decode mX5_readPart.2.1 58 = .ok (.getfield 28, 3) by decide +kernel) ?_
      refine x_iload_n (pc := 61) (show decode mX5_readPart.2.1 61 = .ok (.iload_n 1, 1) by decide +kernel) rfl rfl ?_
      obtain ⟨hg, hR⟩ := hR
      refine x_iald (pc := 62) rfl (by decide) hg (show decode mX5_readPart.2.1 62 = .ok (.iaload, 1) by decide +kernel) ?_
      obtain ⟨hg, hR⟩ := hR
      refine x_if_ne (pc := 63) (tgt := 76) (show decode mX5_readPart.2.1 63 = .ok (.ifCond .ne 13, 3) by decide +kernel) (by decide) hg (fun hc => ?_) (fun hc => ?_)
      · replace hR := hR.1 hc
        exact x_vret (pc := 76) rfl (show decode mX5_readPart.2.1 76 = .ok (.return_, 1) by decide +kernel) ⟨rfl, hR⟩
      · replace hR := hR.2 hc
        refine x_aload_n (pc := 66) (show decode mX5_readPart.2.1 66 = .ok (.aload_n 0, 1) by decide +kernel) rfl rfl ?_
        refine x_getR (pc := 67) f5_37 rfl rfl (show decode mX5_readPart.2.1 67 = .ok (.getfield 37, 3) by decide +kernel) ?_
        refine x_iload_n (pc := 70) (show decode mX5_readPart.2.1 70 = .ok (.iload_n 1, 1) by decide +kernel) rfl rfl ?_
        refine x_aload_n (pc := 71) (show decode mX5_readPart.2.1 71 = .ok (.aload_n 0, 1) by decide +kernel) rfl rfl ?_
        refine x_callV (pc := 72) (As := []) (rest := [.inl x1, .inr (.inr 49)]) (lk5_54 rfl) im_X5_readStitch sl_X5_readStitch rfl rfl rfl (Nat.le_of_ble_eq_true rfl) (Nat.le_of_ble_eq_true rfl) (show decode mX5_readPart.2.1 72 = .ok (.invokevirtual 54, 3) by decide +kernel) hd hR (fun r9 h7 hq => ?_)
        obtain ⟨r8, rfl, hR⟩ := hq
        show xG _ _ _ 75 _ [.inl r8, .inl x1, .inr (.inr 49)] _ _
        obtain ⟨hg, hR⟩ := hR
        refine x_iast (pc := 75) rfl (by decide) hg (show decode mX5_readPart.2.1 75 = .ok (.iastore, 1) by decide +kernel) ?_
        exact x_vret (pc := 76) rfl (show decode mX5_readPart.2.1 76 = .ok (.return_, 1) by decide +kernel) ⟨rfl, hR⟩
    · replace hR := hR.2 hc
      refine x_aload_n (pc := 37) (show decode mX5_readPart.2.1 37 = .ok (.aload_n 0, 1) by decide +kernel) rfl rfl ?_
      refine x_getR (pc := 38) f5_28 rfl rfl (show decode mX5_readPart.2.1 38 = .ok (.getfield 28, 3) by decide +kernel) ?_
      refine x_iload_n (pc := 41) (show decode mX5_readPart.2.1 41 = .ok (.iload_n 1, 1) by decide +kernel) rfl rfl ?_
      obtain ⟨hg, hR⟩ := hR
      refine x_iald (pc := 42) rfl (by decide) hg (show decode mX5_readPart.2.1 42 = .ok (.iaload, 1) by decide +kernel) ?_
      refine x_iconst (pc := 43) (n := 1) (show decode mX5_readPart.2.1 43 = .ok (.iconst 1, 1) by decide +kernel) ?_
      obtain ⟨hg, hR⟩ := hR
      refine x_icmp_ne (pc := 44) (tgt := 57) (show decode mX5_readPart.2.1 44 = .ok (.if_icmp .ne 13, 3) by decide +kernel) (by decide) ⟨hg, (by unfold inI; decide)⟩ (fun hc => ?_) (fun hc => ?_)
      · replace hR := hR.1 hc
        refine x_aload_n (pc := 57) (show decode mX5_readPart.2.1 57 = .ok (.aload_n 0, 1) by decide +kernel) rfl rfl ?_
        refine x_getR (pc := 58) f5_28 rfl rfl (show decode mX5_readPart.2.1 58 = .ok (.getfield 28, 3) by decide +kernel) ?_
        refine x_iload_n (pc := 61) (show decode mX5_readPart.2.1 61 = .ok (.iload_n 1, 1) by decide +kernel) rfl rfl ?_
        obtain ⟨hg, hR⟩ := hR
        refine x_iald (pc := 62) rfl (by decide) hg (show decode mX5_readPart.2.1 62 = .ok (.iaload, 1) by decide +kernel) ?_
        obtain ⟨hg, hR⟩ := hR
        refine x_if_ne (pc := 63) (tgt := 76) (show decode mX5_readPart.2.1 63 = .ok (.ifCond .ne 13, 3) by decide +kernel) (by decide) hg (fun hc => ?_) (fun hc => ?_)
        · replace hR := hR.1 hc
          exact x_vret (pc := 76) rfl (show decode mX5_readPart.2.1 76 = .ok (.return_, 1) by decide +kernel) ⟨rfl, hR⟩
        · replace hR := hR.2 hc
          refine x_aload_n (pc := 66) (show decode mX5_readPart.2.1 66 = .ok (.aload_n 0, 1) by decide +kernel) rfl rfl ?_
          refine x_getR (pc := 67) f5_37 rfl rfl (show decode mX5_readPart.2.1 67 = .ok (.getfield 37, 3) by decide +kernel) ?_
          refine x_iload_n (pc := 70) (show decode mX5_readPart.2.1 70 = .ok (.iload_n 1, 1) by decide +kernel) rfl rfl ?_
          refine x_aload_n (pc := 71) (show decode mX5_readPart.2.1 71 = .ok (.aload_n 0, 1) by decide +kernel) rfl rfl ?_
          refine x_callV (pc := 72) (As := []) (rest := [.inl x1, .inr (.inr 49)]) (lk5_54 rfl) im_X5_readStitch sl_X5_readStitch rfl rfl rfl (Nat.le_of_ble_eq_true rfl) (Nat.le_of_ble_eq_true rfl) (show decode mX5_readPart.2.1 72 = .ok (.invokevirtual 54, 3) by decide +kernel) hd hR (fun r9 h9 hq => ?_)
          obtain ⟨r10, rfl, hR⟩ := hq
          show xG _ _ _ 75 _ [.inl r10, .inl x1, .inr (.inr 49)] _ _
          obtain ⟨hg, hR⟩ := hR
          refine x_iast (pc := 75) rfl (by decide) hg (show decode mX5_readPart.2.1 75 = .ok (.iastore, 1) by decide +kernel) ?_
          exact x_vret (pc := 76) rfl (show decode mX5_readPart.2.1 76 = .ok (.return_, 1) by decide +kernel) ⟨rfl, hR⟩
      · replace hR := hR.2 hc
        refine x_aload_n (pc := 47) (show decode mX5_readPart.2.1 47 = .ok (.aload_n 0, 1) by decide +kernel) rfl rfl ?_
        refine x_getR (pc := 48) f5_34 rfl rfl (show decode mX5_readPart.2.1 48 = .ok (.getfield 34, 3) by decide +kernel) ?_
        refine x_iload_n (pc := 51) (show decode mX5_readPart.2.1 51 = .ok (.iload_n 1, 1) by decide +kernel) rfl rfl ?_
        refine x_aload_n (pc := 52) (show decode mX5_readPart.2.1 52 = .ok (.aload_n 0, 1) by decide +kernel) rfl rfl ?_
        refine x_callV (pc := 53) (As := []) (rest := [.inl x1, .inr (.inr 48)]) (lk5_51 rfl) im_X5_readNumber sl_X5_readNumber rfl rfl rfl (Nat.le_of_ble_eq_true rfl) (Nat.le_of_ble_eq_true rfl) (show decode mX5_readPart.2.1 53 = .ok (.invokevirtual 51, 3) by decide +kernel) hd hR (fun r9 h11 hq => ?_)
        obtain ⟨r12, rfl, hR⟩ := hq
        show xG _ _ _ 56 _ [.inl r12, .inl x1, .inr (.inr 48)] _ _
        obtain ⟨hg, hR⟩ := hR
        refine x_iast (pc := 56) rfl (by decide) hg (show decode mX5_readPart.2.1 56 = .ok (.iastore, 1) by decide +kernel) ?_
        refine x_aload_n (pc := 57) (show decode mX5_readPart.2.1 57 = .ok (.aload_n 0, 1) by decide +kernel) rfl rfl ?_
        refine x_getR (pc := 58) f5_28 rfl rfl (show decode mX5_readPart.2.1 58 = .ok (.getfield 28, 3) by decide +kernel) ?_
        refine x_iload_n (pc := 61) (show decode mX5_readPart.2.1 61 = .ok (.iload_n 1, 1) by decide +kernel) rfl rfl ?_
        obtain ⟨hg, hR⟩ := hR
        refine x_iald (pc := 62) rfl (by decide) hg (show decode mX5_readPart.2.1 62 = .ok (.iaload, 1) by decide +kernel) ?_
        obtain ⟨hg, hR⟩ := hR
        refine x_if_ne (pc := 63) (tgt := 76) (show decode mX5_readPart.2.1 63 = .ok (.ifCond .ne 13, 3) by decide +kernel) (by decide) hg (fun hc => ?_) (fun hc => ?_)
        · replace hR := hR.1 hc
          exact x_vret (pc := 76) rfl (show decode mX5_readPart.2.1 76 = .ok (.return_, 1) by decide +kernel) ⟨rfl, hR⟩
        · replace hR := hR.2 hc
          refine x_aload_n (pc := 66) (show decode mX5_readPart.2.1 66 = .ok (.aload_n 0, 1) by decide +kernel) rfl rfl ?_
          refine x_getR (pc := 67) f5_37 rfl rfl (show decode mX5_readPart.2.1 67 = .ok (.getfield 37, 3) by decide +kernel) ?_
          refine x_iload_n (pc := 70) (show decode mX5_readPart.2.1 70 = .ok (.iload_n 1, 1) by decide +kernel) rfl rfl ?_
          refine x_aload_n (pc := 71) (show decode mX5_readPart.2.1 71 = .ok (.aload_n 0, 1) by decide +kernel) rfl rfl ?_
          refine x_callV (pc := 72) (As := []) (rest := [.inl x1, .inr (.inr 49)]) (lk5_54 rfl) im_X5_readStitch sl_X5_readStitch rfl rfl rfl (Nat.le_of_ble_eq_true rfl) (Nat.le_of_ble_eq_true rfl) (show decode mX5_readPart.2.1 72 = .ok (.invokevirtual 54, 3) by decide +kernel) hd hR (fun r9 h13 hq => ?_)
          obtain ⟨r14, rfl, hR⟩ := hq
          show xG _ _ _ 75 _ [.inl r14, .inl x1, .inr (.inr 49)] _ _
          obtain ⟨hg, hR⟩ := hR
          refine x_iast (pc := 75) rfl (by decide) hg (show decode mX5_readPart.2.1 75 = .ok (.iastore, 1) by decide +kernel) ?_
          exact x_vret (pc := 76) rfl (show decode mX5_readPart.2.1 76 = .ok (.return_, 1) by decide +kernel) ⟨rfl, hR⟩
  · replace hR := hR.2 hc
    exact x_vret (pc := 17) rfl (show decode mX5_readPart.2.1 17 = .ok (.return_, 1) by decide +kernel) ⟨rfl, hR⟩
set_option maxRecDepth 4000 in
theorem sg_X5_readKind_0 {d : Nat} {h : xH} {Q : Int → xH → Prop} (hd : 1 ≤ d)
    (hR : cV wdC (d - 1) mX5_skipWord [.inr (.inr 44)] h (fun h1 => cB wdC (d - 1) mX5_isWord [.inr (.inr 44), .inl (h 44 2), .inr (.inr 1000)] h1 (fun h2 => Q 0 h2) (fun h2 => cB wdC (d - 1) mX5_isWord [.inr (.inr 44), .inl (h 44 2), .inr (.inr 1001)] h2 (fun h3 => Q 1 h3) (fun h3 => cB wdC (d - 1) mX5_isWord [.inr (.inr 44), .inl (h 44 2), .inr (.inr 1002)] h3 (fun h4 => Q 2 h4) (fun h4 => cB wdC (d - 1) mX5_isWord [.inr (.inr 44), .inl (h 44 2), .inr (.inr 1003)] h4 (fun h5 => Q 3 h5) (fun h5 => Q 3 (xu h5 44 3 (h 44 2)))))))) :
    gI wdC d mX5_readKind 0 [some (.inr (.inr 44)), none] h Q := by
  unfold gI
  refine x_aload_n (pc := 0) (show decode mX5_readKind.2.1 0 = .ok (.aload_n 0, 1) by decide +kernel) rfl rfl ?_
  refine x_getI (pc := 1) (ki := 2) f5_19 rfl rfl (by decide) rfl (show decode mX5_readKind.2.1 1 = .ok (.getfield 19, 3) by decide +kernel) ?_
  refine x_istore_n (pc := 4) (ls' := [some (.inr (.inr 44)), some (.inl (h 44 2))]) (show decode mX5_readKind.2.1 4 = .ok (.istore_n 1, 1) by decide +kernel) rfl (by decide) rfl ?_
  refine x_aload_n (pc := 5) (show decode mX5_readKind.2.1 5 = .ok (.aload_n 0, 1) by decide +kernel) rfl rfl ?_
  refine x_callV (pc := 6) (As := []) (rest := []) (lk5_57 rfl) im_X5_skipWord sl_X5_skipWord rfl rfl rfl (Nat.le_of_ble_eq_true rfl) (Nat.le_of_ble_eq_true rfl) (show decode mX5_readKind.2.1 6 = .ok (.invokevirtual 57, 3) by decide +kernel) hd hR (fun r9 h1 hq => ?_)
  obtain ⟨rfl, hR⟩ := hq
  show xG _ _ _ 9 _ [] _ _
  refine x_aload_n (pc := 9) (show decode mX5_readKind.2.1 9 = .ok (.aload_n 0, 1) by decide +kernel) rfl rfl ?_
  refine x_iload_n (pc := 10) (show decode mX5_readKind.2.1 10 = .ok (.iload_n 1, 1) by decide +kernel) rfl rfl ?_
  refine x_ldcS (pc := 11) (i := 0) (by decide) rfl rfl (show decode mX5_readKind.2.1 11 = .ok (.ldc 60, 2) by decide +kernel) ?_
  refine x_callV (pc := 13) (As := [.inl (h 44 2), .inr (.inr 1000)]) (rest := []) (lk5_62 rfl) im_X5_isWord sl_X5_isWord rfl rfl rfl (Nat.le_of_ble_eq_true rfl) (Nat.le_of_ble_eq_true rfl) (show decode mX5_readKind.2.1 13 = .ok (.invokevirtual 62, 3) by decide +kernel) hd hR (fun r9 h2 hq => ?_)
  obtain ⟨r8, rfl, hq⟩ := hq
  rcases hq with ⟨rfl, hR⟩ | ⟨rfl, hR⟩
  · show xG _ _ _ 16 _ [.inl 1] _ _
    refine x_if_eq (pc := 16) (tgt := 21) (show decode mX5_readKind.2.1 16 = .ok (.ifCond .eq 5, 3) by decide +kernel) (by decide) (by unfold inI; decide) (fun hc => absurd hc (by decide)) (fun _ => ?_)
    refine x_iconst (pc := 19) (n := 0) (show decode mX5_readKind.2.1 19 = .ok (.iconst 0, 1) by decide +kernel) ?_
    exact x_iret (pc := 20) rfl (show decode mX5_readKind.2.1 20 = .ok (.ireturn, 1) by decide +kernel) ⟨_, rfl, hR⟩
  · show xG _ _ _ 16 _ [.inl 0] _ _
    refine x_if_eq (pc := 16) (tgt := 21) (show decode mX5_readKind.2.1 16 = .ok (.ifCond .eq 5, 3) by decide +kernel) (by decide) (by unfold inI; decide) (fun _ => ?_) (fun hc => absurd hc (by decide))
    refine x_aload_n (pc := 21) (show decode mX5_readKind.2.1 21 = .ok (.aload_n 0, 1) by decide +kernel) rfl rfl ?_
    refine x_iload_n (pc := 22) (show decode mX5_readKind.2.1 22 = .ok (.iload_n 1, 1) by decide +kernel) rfl rfl ?_
    refine x_ldcS (pc := 23) (i := 1) (by decide) rfl rfl (show decode mX5_readKind.2.1 23 = .ok (.ldc 66, 2) by decide +kernel) ?_
    refine x_callV (pc := 25) (As := [.inl (h 44 2), .inr (.inr 1001)]) (rest := []) (lk5_62 rfl) im_X5_isWord sl_X5_isWord rfl rfl rfl (Nat.le_of_ble_eq_true rfl) (Nat.le_of_ble_eq_true rfl) (show decode mX5_readKind.2.1 25 = .ok (.invokevirtual 62, 3) by decide +kernel) hd hR (fun r9 h3 hq => ?_)
    obtain ⟨r8, rfl, hq⟩ := hq
    rcases hq with ⟨rfl, hR⟩ | ⟨rfl, hR⟩
    · show xG _ _ _ 28 _ [.inl 1] _ _
      refine x_if_eq (pc := 28) (tgt := 33) (show decode mX5_readKind.2.1 28 = .ok (.ifCond .eq 5, 3) by decide +kernel) (by decide) (by unfold inI; decide) (fun hc => absurd hc (by decide)) (fun _ => ?_)
      refine x_iconst (pc := 31) (n := 1) (show decode mX5_readKind.2.1 31 = .ok (.iconst 1, 1) by decide +kernel) ?_
      exact x_iret (pc := 32) rfl (show decode mX5_readKind.2.1 32 = .ok (.ireturn, 1) by decide +kernel) ⟨_, rfl, hR⟩
    · show xG _ _ _ 28 _ [.inl 0] _ _
      refine x_if_eq (pc := 28) (tgt := 33) (show decode mX5_readKind.2.1 28 = .ok (.ifCond .eq 5, 3) by decide +kernel) (by decide) (by unfold inI; decide) (fun _ => ?_) (fun hc => absurd hc (by decide))
      refine x_aload_n (pc := 33) (show decode mX5_readKind.2.1 33 = .ok (.aload_n 0, 1) by decide +kernel) rfl rfl ?_
      refine x_iload_n (pc := 34) (show decode mX5_readKind.2.1 34 = .ok (.iload_n 1, 1) by decide +kernel) rfl rfl ?_
      refine x_ldcS (pc := 35) (i := 2) (by decide) rfl rfl (show decode mX5_readKind.2.1 35 = .ok (.ldc 68, 2) by decide +kernel) ?_
      refine x_callV (pc := 37) (As := [.inl (h 44 2), .inr (.inr 1002)]) (rest := []) (lk5_62 rfl) im_X5_isWord sl_X5_isWord rfl rfl rfl (Nat.le_of_ble_eq_true rfl) (Nat.le_of_ble_eq_true rfl) (show decode mX5_readKind.2.1 37 = .ok (.invokevirtual 62, 3) by decide +kernel) hd hR (fun r9 h4 hq => ?_)
      obtain ⟨r8, rfl, hq⟩ := hq
      rcases hq with ⟨rfl, hR⟩ | ⟨rfl, hR⟩
      · show xG _ _ _ 40 _ [.inl 1] _ _
        refine x_if_eq (pc := 40) (tgt := 45) (show decode mX5_readKind.2.1 40 = .ok (.ifCond .eq 5, 3) by decide +kernel) (by decide) (by unfold inI; decide) (fun hc => absurd hc (by decide)) (fun _ => ?_)
        refine x_iconst (pc := 43) (n := 2) (show decode mX5_readKind.2.1 43 = .ok (.iconst 2, 1) by decide +kernel) ?_
        exact x_iret (pc := 44) rfl (show decode mX5_readKind.2.1 44 = .ok (.ireturn, 1) by decide +kernel) ⟨_, rfl, hR⟩
      · show xG _ _ _ 40 _ [.inl 0] _ _
        refine x_if_eq (pc := 40) (tgt := 45) (show decode mX5_readKind.2.1 40 = .ok (.ifCond .eq 5, 3) by decide +kernel) (by decide) (by unfold inI; decide) (fun _ => ?_) (fun hc => absurd hc (by decide))
        refine x_aload_n (pc := 45) (show decode mX5_readKind.2.1 45 = .ok (.aload_n 0, 1) by decide +kernel) rfl rfl ?_
        refine x_iload_n (pc := 46) (show decode mX5_readKind.2.1 46 = .ok (.iload_n 1, 1) by decide +kernel) rfl rfl ?_
        refine x_ldcS (pc := 47) (i := 3) (by decide) rfl rfl (show decode mX5_readKind.2.1 47 = .ok (.ldc 70, 2) by decide +kernel) ?_
        refine x_callV (pc := 49) (As := [.inl (h 44 2), .inr (.inr 1003)]) (rest := []) (lk5_62 rfl) im_X5_isWord sl_X5_isWord rfl rfl rfl (Nat.le_of_ble_eq_true rfl) (Nat.le_of_ble_eq_true rfl) (show decode mX5_readKind.2.1 49 = .ok (.invokevirtual 62, 3) by decide +kernel) hd hR (fun r9 h5 hq => ?_)
        obtain ⟨r8, rfl, hq⟩ := hq
        rcases hq with ⟨rfl, hR⟩ | ⟨rfl, hR⟩
        · show xG _ _ _ 52 _ [.inl 1] _ _
          refine x_if_eq (pc := 52) (tgt := 57) (show decode mX5_readKind.2.1 52 = .ok (.ifCond .eq 5, 3) by decide +kernel) (by decide) (by unfold inI; decide) (fun hc => absurd hc (by decide)) (fun _ => ?_)
          refine x_iconst (pc := 55) (n := 3) (show decode mX5_readKind.2.1 55 = .ok (.iconst 3, 1) by decide +kernel) ?_
          exact x_iret (pc := 56) rfl (show decode mX5_readKind.2.1 56 = .ok (.ireturn, 1) by decide +kernel) ⟨_, rfl, hR⟩
        · show xG _ _ _ 52 _ [.inl 0] _ _
          refine x_if_eq (pc := 52) (tgt := 57) (show decode mX5_readKind.2.1 52 = .ok (.ifCond .eq 5, 3) by decide +kernel) (by decide) (by unfold inI; decide) (fun _ => ?_) (fun hc => absurd hc (by decide))
          refine x_aload_n (pc := 57) (show decode mX5_readKind.2.1 57 = .ok (.aload_n 0, 1) by decide +kernel) rfl rfl ?_
          refine x_iload_n (pc := 58) (show decode mX5_readKind.2.1 58 = .ok (.iload_n 1, 1) by decide +kernel) rfl rfl ?_
          refine x_putI (pc := 59) (ki := 3) f5_22 fp5_3 rfl rfl rfl (show decode mX5_readKind.2.1 59 = .ok (.putfield 22, 3) by decide +kernel) ?_
          refine x_iconst (pc := 62) (n := 3) (show decode mX5_readKind.2.1 62 = .ok (.iconst 3, 1) by decide +kernel) ?_
          exact x_iret (pc := 63) rfl (show decode mX5_readKind.2.1 63 = .ok (.ireturn, 1) by decide +kernel) ⟨_, rfl, hR⟩
set_option maxRecDepth 4000 in
theorem sg_X5_readStitch_0 {d : Nat} {h : xH} {Q : Int → xH → Prop} (hd : 1 ≤ d)
    (hR : cV wdC (d - 1) mX5_expect [.inr (.inr 44), .inl 32] h (fun h1 => (inI (h1 44 3)) ∧ ((h1 44 3) < 0 → cV wdC (d - 1) mX5_skipWord [.inr (.inr 44)] h1 (fun h2 => gI wdC d mX5_readStitch 26 [some (.inr (.inr 44)), some (.inl (h1 44 2)), some (.inl 0)] h2 Q)) ∧ (0 ≤ (h1 44 3) → Q 0 h1))) :
    gI wdC d mX5_readStitch 0 [some (.inr (.inr 44)), none, none] h Q := by
  unfold gI
  refine x_aload_n (pc := 0) (show decode mX5_readStitch.2.1 0 = .ok (.aload_n 0, 1) by decide +kernel) rfl rfl ?_
  refine x_bipush (pc := 1) (n := 32) (show decode mX5_readStitch.2.1 1 = .ok (.bipush 32, 2) by decide +kernel) rfl ?_
  refine x_callV (pc := 3) (As := [.inl 32]) (rest := []) (lk5_44 rfl) im_X5_expect sl_X5_expect rfl rfl rfl (Nat.le_of_ble_eq_true rfl) (Nat.le_of_ble_eq_true rfl) (show decode mX5_readStitch.2.1 3 = .ok (.invokevirtual 44, 3) by decide +kernel) hd hR (fun r9 h1 hq => ?_)
  obtain ⟨rfl, hR⟩ := hq
  show xG _ _ _ 6 _ [] _ _
  refine x_aload_n (pc := 6) (show decode mX5_readStitch.2.1 6 = .ok (.aload_n 0, 1) by decide +kernel) rfl rfl ?_
  refine x_getI (pc := 7) (ki := 3) f5_22 rfl rfl (by decide) rfl (show decode mX5_readStitch.2.1 7 = .ok (.getfield 22, 3) by decide +kernel) ?_
  obtain ⟨hg, hR⟩ := hR
  refine x_if_lt (pc := 10) (tgt := 15) (show decode mX5_readStitch.2.1 10 = .ok (.ifCond .lt 5, 3) by decide +kernel) (by decide) hg (fun hc => ?_) (fun hc => ?_)
  · replace hR := hR.1 hc
    refine x_aload_n (pc := 15) (show decode mX5_readStitch.2.1 15 = .ok (.aload_n 0, 1) by decide +kernel) rfl rfl ?_
    refine x_getI (pc := 16) (ki := 2) f5_19 rfl rfl (by decide) rfl (show decode mX5_readStitch.2.1 16 = .ok (.getfield 19, 3) by decide +kernel) ?_
    refine x_istore_n (pc := 19) (ls' := [some (.inr (.inr 44)), some (.inl (h1 44 2)), none]) (show decode mX5_readStitch.2.1 19 = .ok (.istore_n 1, 1) by decide +kernel) rfl (by decide) rfl ?_
    refine x_aload_n (pc := 20) (show decode mX5_readStitch.2.1 20 = .ok (.aload_n 0, 1) by decide +kernel) rfl rfl ?_
    refine x_callV (pc := 21) (As := []) (rest := []) (lk5_57 rfl) im_X5_skipWord sl_X5_skipWord rfl rfl rfl (Nat.le_of_ble_eq_true rfl) (Nat.le_of_ble_eq_true rfl) (show decode mX5_readStitch.2.1 21 = .ok (.invokevirtual 57, 3) by decide +kernel) hd hR (fun r9 h2 hq => ?_)
    obtain ⟨rfl, hR⟩ := hq
    show xG _ _ _ 24 _ [] _ _
    refine x_iconst (pc := 24) (n := 0) (show decode mX5_readStitch.2.1 24 = .ok (.iconst 0, 1) by decide +kernel) ?_
    refine x_istore_n (pc := 25) (ls' := [some (.inr (.inr 44)), some (.inl (h1 44 2)), some (.inl 0)]) (show decode mX5_readStitch.2.1 25 = .ok (.istore_n 2, 1) by decide +kernel) rfl (by decide) rfl ?_
    exact hR
  · replace hR := hR.2 hc
    refine x_iconst (pc := 13) (n := 0) (show decode mX5_readStitch.2.1 13 = .ok (.iconst 0, 1) by decide +kernel) ?_
    exact x_iret (pc := 14) rfl (show decode mX5_readStitch.2.1 14 = .ok (.ireturn, 1) by decide +kernel) ⟨_, rfl, hR⟩
set_option maxRecDepth 4000 in
theorem sg_X5_readStitch_26 {d : Nat} {x1 x2 : Int} {h : xH} {Q : Int → xH → Prop} (hd : 1 ≤ d)
    (hR : (inI x2) ∧ (5 ≤ x2 → Q 0 (xu h 44 3 x1)) ∧ (x2 < 5 → cR wdC (d - 1) mX5_nameOf [.inl x2] h (fun r2 h1 => cB wdC (d - 1) mX5_isWord [.inr (.inr 44), .inl x1, .inr (.inr (1000 + r2))] h1 (fun h3 => Q x2 h3) (fun h3 => gI wdC d mX5_readStitch 26 [some (.inr (.inr 44)), some (.inl x1), some (.inl (x2 + 1))] h3 Q)))) :
    gI wdC d mX5_readStitch 26 [some (.inr (.inr 44)), some (.inl x1), some (.inl x2)] h Q := by
  unfold gI
  refine x_iload_n (pc := 26) (show decode mX5_readStitch.2.1 26 = .ok (.iload_n 2, 1) by decide +kernel) rfl rfl ?_
  refine x_iconst (pc := 27) (n := 5) (show decode mX5_readStitch.2.1 27 = .ok (.iconst 5, 1) by decide +kernel) ?_
  obtain ⟨hg, hR⟩ := hR
  refine x_icmp_ge (pc := 28) (tgt := 51) (show decode mX5_readStitch.2.1 28 = .ok (.if_icmp .ge 23, 3) by decide +kernel) (by decide) ⟨hg, (by unfold inI; decide)⟩ (fun hc => ?_) (fun hc => ?_)
  · replace hR := hR.1 hc
    refine x_aload_n (pc := 51) (show decode mX5_readStitch.2.1 51 = .ok (.aload_n 0, 1) by decide +kernel) rfl rfl ?_
    refine x_iload_n (pc := 52) (show decode mX5_readStitch.2.1 52 = .ok (.iload_n 1, 1) by decide +kernel) rfl rfl ?_
    refine x_putI (pc := 53) (ki := 3) f5_22 fp5_3 rfl rfl rfl (show decode mX5_readStitch.2.1 53 = .ok (.putfield 22, 3) by decide +kernel) ?_
    refine x_iconst (pc := 56) (n := 0) (show decode mX5_readStitch.2.1 56 = .ok (.iconst 0, 1) by decide +kernel) ?_
    exact x_iret (pc := 57) rfl (show decode mX5_readStitch.2.1 57 = .ok (.ireturn, 1) by decide +kernel) ⟨_, rfl, hR⟩
  · replace hR := hR.2 hc
    refine x_aload_n (pc := 31) (show decode mX5_readStitch.2.1 31 = .ok (.aload_n 0, 1) by decide +kernel) rfl rfl ?_
    refine x_iload_n (pc := 32) (show decode mX5_readStitch.2.1 32 = .ok (.iload_n 1, 1) by decide +kernel) rfl rfl ?_
    refine x_iload_n (pc := 33) (show decode mX5_readStitch.2.1 33 = .ok (.iload_n 2, 1) by decide +kernel) rfl rfl ?_
    refine x_callS (pc := 34) (As := [.inl x2]) (rest := [.inl x1, .inr (.inr 44)]) (lk5_72 rfl) sm_X5_nameOf (Nat.le_of_ble_eq_true rfl) (Nat.le_of_ble_eq_true rfl) (show decode mX5_readStitch.2.1 34 = .ok (.invokestatic 72, 3) by decide +kernel) hd hR (fun r9 h1 hq => ?_)
    obtain ⟨r2, rfl, hR⟩ := hq
    show xG _ _ _ 37 _ [.inr (.inr (1000 + r2)), .inl x1, .inr (.inr 44)] _ _
    refine x_callV (pc := 37) (As := [.inl x1, .inr (.inr (1000 + r2))]) (rest := []) (lk5_62 rfl) im_X5_isWord sl_X5_isWord rfl rfl rfl (Nat.le_of_ble_eq_true rfl) (Nat.le_of_ble_eq_true rfl) (show decode mX5_readStitch.2.1 37 = .ok (.invokevirtual 62, 3) by decide +kernel) hd hR (fun r9 h3 hq => ?_)
    obtain ⟨r8, rfl, hq⟩ := hq
    rcases hq with ⟨rfl, hR⟩ | ⟨rfl, hR⟩
    · show xG _ _ _ 40 _ [.inl 1] _ _
      refine x_if_eq (pc := 40) (tgt := 45) (show decode mX5_readStitch.2.1 40 = .ok (.ifCond .eq 5, 3) by decide +kernel) (by decide) (by unfold inI; decide) (fun hc => absurd hc (by decide)) (fun _ => ?_)
      refine x_iload_n (pc := 43) (show decode mX5_readStitch.2.1 43 = .ok (.iload_n 2, 1) by decide +kernel) rfl rfl ?_
      exact x_iret (pc := 44) rfl (show decode mX5_readStitch.2.1 44 = .ok (.ireturn, 1) by decide +kernel) ⟨_, rfl, hR⟩
    · show xG _ _ _ 40 _ [.inl 0] _ _
      refine x_if_eq (pc := 40) (tgt := 45) (show decode mX5_readStitch.2.1 40 = .ok (.ifCond .eq 5, 3) by decide +kernel) (by decide) (by unfold inI; decide) (fun _ => ?_) (fun hc => absurd hc (by decide))
      refine x_iinc (pc := 45) (ls' := [some (.inr (.inr 44)), some (.inl x1), some (.inl (x2 + 1))]) (show decode mX5_readStitch.2.1 45 = .ok (.iinc 2 1, 3) by decide +kernel) (by decide) rfl rfl ?_
      refine x_goto (pc := 48) (tgt := 26) (show decode mX5_readStitch.2.1 48 = .ok (.goto (-22), 3) by decide +kernel) (by decide) ?_
      exact hR
set_option maxRecDepth 4000 in
theorem sg_X5_nameOf_0 {d : Nat} {x0 : Int} {h : xH} {Q : Nat → xH → Prop}
    (hR : inI x0 ∧ (x0 = 0 → Q 4 h) ∧ (x0 = 1 → Q 5 h) ∧ (x0 = 2 → Q 6 h) ∧ (x0 = 3 → Q 7 h) ∧ ((x0 < 0 ∨ 3 < x0) → Q 8 h)) :
    gR wdC d mX5_nameOf 0 [some (.inl x0)] h Q := by
  unfold gR
  refine x_iload_n (pc := 0) (show decode mX5_nameOf.2.1 0 = .ok (.iload_n 0, 1) by decide +kernel) rfl rfl ?_
  obtain ⟨hg, hR⟩ := hR
  rcases (show x0 = 0 ∨ x0 = 1 ∨ x0 = 2 ∨ x0 = 3 ∨ (x0 < 0 ∨ 3 < x0) by omega) with hc | hc | hc | hc | hc
  · replace hR := hR.1 hc
    refine x_tswAt (pc := 1) (n := 0) (tgt := 32) (show decode mX5_nameOf.2.1 1 = .ok (.tableswitch 43 0 3 #[31, 34, 37, 40], 31) by decide +kernel) hg hc (by decide) rfl (by decide) ?_
    refine x_ldcS (pc := 32) (i := 4) (by decide) rfl rfl (show decode mX5_nameOf.2.1 32 = .ok (.ldc 76, 2) by decide +kernel) ?_
    exact x_aret (pc := 34) rfl (show decode mX5_nameOf.2.1 34 = .ok (.areturn, 1) by decide +kernel) ⟨4, rfl, hR⟩
  · replace hR := hR.2.1 hc
    refine x_tswAt (pc := 1) (n := 1) (tgt := 35) (show decode mX5_nameOf.2.1 1 = .ok (.tableswitch 43 0 3 #[31, 34, 37, 40], 31) by decide +kernel) hg hc (by decide) rfl (by decide) ?_
    refine x_ldcS (pc := 35) (i := 5) (by decide) rfl rfl (show decode mX5_nameOf.2.1 35 = .ok (.ldc 78, 2) by decide +kernel) ?_
    exact x_aret (pc := 37) rfl (show decode mX5_nameOf.2.1 37 = .ok (.areturn, 1) by decide +kernel) ⟨5, rfl, hR⟩
  · replace hR := hR.2.2.1 hc
    refine x_tswAt (pc := 1) (n := 2) (tgt := 38) (show decode mX5_nameOf.2.1 1 = .ok (.tableswitch 43 0 3 #[31, 34, 37, 40], 31) by decide +kernel) hg hc (by decide) rfl (by decide) ?_
    refine x_ldcS (pc := 38) (i := 6) (by decide) rfl rfl (show decode mX5_nameOf.2.1 38 = .ok (.ldc 80, 2) by decide +kernel) ?_
    exact x_aret (pc := 40) rfl (show decode mX5_nameOf.2.1 40 = .ok (.areturn, 1) by decide +kernel) ⟨6, rfl, hR⟩
  · replace hR := hR.2.2.2.1 hc
    refine x_tswAt (pc := 1) (n := 3) (tgt := 41) (show decode mX5_nameOf.2.1 1 = .ok (.tableswitch 43 0 3 #[31, 34, 37, 40], 31) by decide +kernel) hg hc (by decide) rfl (by decide) ?_
    refine x_ldcS (pc := 41) (i := 7) (by decide) rfl rfl (show decode mX5_nameOf.2.1 41 = .ok (.ldc 82, 2) by decide +kernel) ?_
    exact x_aret (pc := 43) rfl (show decode mX5_nameOf.2.1 43 = .ok (.areturn, 1) by decide +kernel) ⟨7, rfl, hR⟩
  · replace hR := hR.2.2.2.2 hc
    refine x_tswOut (pc := 1) (tgt := 44) (show decode mX5_nameOf.2.1 1 = .ok (.tableswitch 43 0 3 #[31, 34, 37, 40], 31) by decide +kernel) hg hc (by decide) ?_
    refine x_ldcS (pc := 44) (i := 8) (by decide) rfl rfl (show decode mX5_nameOf.2.1 44 = .ok (.ldc 84, 2) by decide +kernel) ?_
    exact x_aret (pc := 46) rfl (show decode mX5_nameOf.2.1 46 = .ok (.areturn, 1) by decide +kernel) ⟨8, rfl, hR⟩
set_option maxRecDepth 4000 in
theorem sg_X5_readNumber_0 {d : Nat} {h : xH} {Q : Int → xH → Prop} (hd : 1 ≤ d)
    (hR : cV wdC (d - 1) mX5_expect [.inr (.inr 44), .inl 32] h (fun h1 => (inI (h1 44 3)) ∧ ((h1 44 3) < 0 → cB wdC (d - 1) mX5_isFigureHere [.inr (.inr 44)] h1 (fun h2 => cI wdC (d - 1) mX5_readFigure [.inr (.inr 44)] h2 (fun r4 h3 => cB wdC (d - 1) mX5_isFigureHere [.inr (.inr 44)] h3 (fun h5 => cI wdC (d - 1) mX5_readFigure [.inr (.inr 44)] h5 (fun r7 h6 => Q ((10 * r4) + r7) h6)) (fun h5 => Q r4 h5))) (fun h2 => Q 0 (xu h2 44 3 (h2 44 2)))) ∧ (0 ≤ (h1 44 3) → Q 0 h1))) :
    gI wdC d mX5_readNumber 0 [some (.inr (.inr 44)), none] h Q := by
  unfold gI
  refine x_aload_n (pc := 0) (show decode mX5_readNumber.2.1 0 = .ok (.aload_n 0, 1) by decide +kernel) rfl rfl ?_
  refine x_bipush (pc := 1) (n := 32) (show decode mX5_readNumber.2.1 1 = .ok (.bipush 32, 2) by decide +kernel) rfl ?_
  refine x_callV (pc := 3) (As := [.inl 32]) (rest := []) (lk5_44 rfl) im_X5_expect sl_X5_expect rfl rfl rfl (Nat.le_of_ble_eq_true rfl) (Nat.le_of_ble_eq_true rfl) (show decode mX5_readNumber.2.1 3 = .ok (.invokevirtual 44, 3) by decide +kernel) hd hR (fun r9 h1 hq => ?_)
  obtain ⟨rfl, hR⟩ := hq
  show xG _ _ _ 6 _ [] _ _
  refine x_aload_n (pc := 6) (show decode mX5_readNumber.2.1 6 = .ok (.aload_n 0, 1) by decide +kernel) rfl rfl ?_
  refine x_getI (pc := 7) (ki := 3) f5_22 rfl rfl (by decide) rfl (show decode mX5_readNumber.2.1 7 = .ok (.getfield 22, 3) by decide +kernel) ?_
  obtain ⟨hg, hR⟩ := hR
  refine x_if_lt (pc := 10) (tgt := 15) (show decode mX5_readNumber.2.1 10 = .ok (.ifCond .lt 5, 3) by decide +kernel) (by decide) hg (fun hc => ?_) (fun hc => ?_)
  · replace hR := hR.1 hc
    refine x_aload_n (pc := 15) (show decode mX5_readNumber.2.1 15 = .ok (.aload_n 0, 1) by decide +kernel) rfl rfl ?_
    refine x_callV (pc := 16) (As := []) (rest := []) (lk5_86 rfl) im_X5_isFigureHere sl_X5_isFigureHere rfl rfl rfl (Nat.le_of_ble_eq_true rfl) (Nat.le_of_ble_eq_true rfl) (show decode mX5_readNumber.2.1 16 = .ok (.invokevirtual 86, 3) by decide +kernel) hd hR (fun r9 h2 hq => ?_)
    obtain ⟨r8, rfl, hq⟩ := hq
    rcases hq with ⟨rfl, hR⟩ | ⟨rfl, hR⟩
    · show xG _ _ _ 19 _ [.inl 1] _ _
      refine x_if_ne (pc := 19) (tgt := 32) (show decode mX5_readNumber.2.1 19 = .ok (.ifCond .ne 13, 3) by decide +kernel) (by decide) (by unfold inI; decide) (fun _ => ?_) (fun hc => absurd hc (by decide))
      refine x_aload_n (pc := 32) (show decode mX5_readNumber.2.1 32 = .ok (.aload_n 0, 1) by decide +kernel) rfl rfl ?_
      refine x_callV (pc := 33) (As := []) (rest := []) (lk5_90 rfl) im_X5_readFigure sl_X5_readFigure rfl rfl rfl (Nat.le_of_ble_eq_true rfl) (Nat.le_of_ble_eq_true rfl) (show decode mX5_readNumber.2.1 33 = .ok (.invokevirtual 90, 3) by decide +kernel) hd hR (fun r9 h3 hq => ?_)
      obtain ⟨r4, rfl, hR⟩ := hq
      show xG _ _ _ 36 _ [.inl r4] _ _
      refine x_istore_n (pc := 36) (ls' := [some (.inr (.inr 44)), some (.inl r4)]) (show decode mX5_readNumber.2.1 36 = .ok (.istore_n 1, 1) by decide +kernel) rfl (by decide) rfl ?_
      refine x_aload_n (pc := 37) (show decode mX5_readNumber.2.1 37 = .ok (.aload_n 0, 1) by decide +kernel) rfl rfl ?_
      refine x_callV (pc := 38) (As := []) (rest := []) (lk5_86 rfl) im_X5_isFigureHere sl_X5_isFigureHere rfl rfl rfl (Nat.le_of_ble_eq_true rfl) (Nat.le_of_ble_eq_true rfl) (show decode mX5_readNumber.2.1 38 = .ok (.invokevirtual 86, 3) by decide +kernel) hd hR (fun r9 h5 hq => ?_)
      obtain ⟨r8, rfl, hq⟩ := hq
      rcases hq with ⟨rfl, hR⟩ | ⟨rfl, hR⟩
      · show xG _ _ _ 41 _ [.inl 1] _ _
        refine x_if_eq (pc := 41) (tgt := 56) (show decode mX5_readNumber.2.1 41 = .ok (.ifCond .eq 15, 3) by decide +kernel) (by decide) (by unfold inI; decide) (fun hc => absurd hc (by decide)) (fun _ => ?_)
        refine x_bipush (pc := 44) (n := 10) (show decode mX5_readNumber.2.1 44 = .ok (.bipush 10, 2) by decide +kernel) rfl ?_
        refine x_iload_n (pc := 46) (show decode mX5_readNumber.2.1 46 = .ok (.iload_n 1, 1) by decide +kernel) rfl rfl ?_
        refine x_imul (pc := 47) (show decode mX5_readNumber.2.1 47 = .ok (.imul, 1) by decide +kernel) ?_
        refine x_aload_n (pc := 48) (show decode mX5_readNumber.2.1 48 = .ok (.aload_n 0, 1) by decide +kernel) rfl rfl ?_
        refine x_callV (pc := 49) (As := []) (rest := [.inl (10 * r4)]) (lk5_90 rfl) im_X5_readFigure sl_X5_readFigure rfl rfl rfl (Nat.le_of_ble_eq_true rfl) (Nat.le_of_ble_eq_true rfl) (show decode mX5_readNumber.2.1 49 = .ok (.invokevirtual 90, 3) by decide +kernel) hd hR (fun r9 h6 hq => ?_)
        obtain ⟨r7, rfl, hR⟩ := hq
        show xG _ _ _ 52 _ [.inl r7, .inl (10 * r4)] _ _
        refine x_iadd (pc := 52) (show decode mX5_readNumber.2.1 52 = .ok (.iadd, 1) by decide +kernel) ?_
        refine x_goto (pc := 53) (tgt := 57) (show decode mX5_readNumber.2.1 53 = .ok (.goto 4, 3) by decide +kernel) (by decide) ?_
        exact x_iret (pc := 57) rfl (show decode mX5_readNumber.2.1 57 = .ok (.ireturn, 1) by decide +kernel) ⟨_, rfl, hR⟩
      · show xG _ _ _ 41 _ [.inl 0] _ _
        refine x_if_eq (pc := 41) (tgt := 56) (show decode mX5_readNumber.2.1 41 = .ok (.ifCond .eq 15, 3) by decide +kernel) (by decide) (by unfold inI; decide) (fun _ => ?_) (fun hc => absurd hc (by decide))
        refine x_iload_n (pc := 56) (show decode mX5_readNumber.2.1 56 = .ok (.iload_n 1, 1) by decide +kernel) rfl rfl ?_
        exact x_iret (pc := 57) rfl (show decode mX5_readNumber.2.1 57 = .ok (.ireturn, 1) by decide +kernel) ⟨_, rfl, hR⟩
    · show xG _ _ _ 19 _ [.inl 0] _ _
      refine x_if_ne (pc := 19) (tgt := 32) (show decode mX5_readNumber.2.1 19 = .ok (.ifCond .ne 13, 3) by decide +kernel) (by decide) (by unfold inI; decide) (fun hc => absurd hc (by decide)) (fun _ => ?_)
      refine x_aload_n (pc := 22) (show decode mX5_readNumber.2.1 22 = .ok (.aload_n 0, 1) by decide +kernel) rfl rfl ?_
      refine x_aload_n (pc := 23) (show decode mX5_readNumber.2.1 23 = .ok (.aload_n 0, 1) by decide +kernel) rfl rfl ?_
      refine x_getI (pc := 24) (ki := 2) f5_19 rfl rfl (by decide) rfl (show decode mX5_readNumber.2.1 24 = .ok (.getfield 19, 3) by decide +kernel) ?_
      refine x_putI (pc := 27) (ki := 3) f5_22 fp5_3 rfl rfl rfl (show decode mX5_readNumber.2.1 27 = .ok (.putfield 22, 3) by decide +kernel) ?_
      refine x_iconst (pc := 30) (n := 0) (show decode mX5_readNumber.2.1 30 = .ok (.iconst 0, 1) by decide +kernel) ?_
      exact x_iret (pc := 31) rfl (show decode mX5_readNumber.2.1 31 = .ok (.ireturn, 1) by decide +kernel) ⟨_, rfl, hR⟩
  · replace hR := hR.2 hc
    refine x_iconst (pc := 13) (n := 0) (show decode mX5_readNumber.2.1 13 = .ok (.iconst 0, 1) by decide +kernel) ?_
    exact x_iret (pc := 14) rfl (show decode mX5_readNumber.2.1 14 = .ok (.ireturn, 1) by decide +kernel) ⟨_, rfl, hR⟩
set_option maxRecDepth 4000 in
theorem sg_X5_isFigureHere_0 {d : Nat} {h : xH} {Q : Int → xH → Prop}
    (hR : (inI (h 44 2) ∧ inI (h 44 1)) ∧ ((h 44 1) ≤ (h 44 2) → Q 0 h) ∧ ((h 44 2) < (h 44 1) → (0 ≤ (h 44 2) ∧ (h 44 2) < 120) ∧ (inI (h 45 (h 44 2))) ∧ ((h 45 (h 44 2)) < 48 → Q 0 h) ∧ (48 ≤ (h 45 (h 44 2)) → (0 ≤ (h 44 2) ∧ (h 44 2) < 120) ∧ (inI (h 45 (h 44 2))) ∧ (57 < (h 45 (h 44 2)) → Q 0 h) ∧ ((h 45 (h 44 2)) ≤ 57 → Q 1 h)))) :
    gI wdC d mX5_isFigureHere 0 [some (.inr (.inr 44))] h Q := by
  unfold gI
  refine x_aload_n (pc := 0) (show decode mX5_isFigureHere.2.1 0 = .ok (.aload_n 0, 1) by decide +kernel) rfl rfl ?_
  refine x_getI (pc := 1) (ki := 2) f5_19 rfl rfl (by decide) rfl (show decode mX5_isFigureHere.2.1 1 = .ok (.getfield 19, 3) by decide +kernel) ?_
  refine x_aload_n (pc := 4) (show decode mX5_isFigureHere.2.1 4 = .ok (.aload_n 0, 1) by decide +kernel) rfl rfl ?_
  refine x_getI (pc := 5) (ki := 1) f5_15 rfl rfl (by decide) rfl (show decode mX5_isFigureHere.2.1 5 = .ok (.getfield 15, 3) by decide +kernel) ?_
  obtain ⟨hg, hR⟩ := hR
  refine x_icmp_ge (pc := 8) (tgt := 43) (show decode mX5_isFigureHere.2.1 8 = .ok (.if_icmp .ge 35, 3) by decide +kernel) (by decide) ⟨hg.1, hg.2⟩ (fun hc => ?_) (fun hc => ?_)
  · replace hR := hR.1 hc
    refine x_iconst (pc := 43) (n := 0) (show decode mX5_isFigureHere.2.1 43 = .ok (.iconst 0, 1) by decide +kernel) ?_
    exact x_zret (pc := 44) rfl (show decode mX5_isFigureHere.2.1 44 = .ok (.ireturn, 1) by decide +kernel) (by decide) ⟨_, rfl, hR⟩
  · replace hR := hR.2 hc
    refine x_aload_n (pc := 11) (show decode mX5_isFigureHere.2.1 11 = .ok (.aload_n 0, 1) by decide +kernel) rfl rfl ?_
    refine x_getR (pc := 12) f5_9 rfl rfl (show decode mX5_isFigureHere.2.1 12 = .ok (.getfield 9, 3) by decide +kernel) ?_
    refine x_aload_n (pc := 15) (show decode mX5_isFigureHere.2.1 15 = .ok (.aload_n 0, 1) by decide +kernel) rfl rfl ?_
    refine x_getI (pc := 16) (ki := 2) f5_19 rfl rfl (by decide) rfl (show decode mX5_isFigureHere.2.1 16 = .ok (.getfield 19, 3) by decide +kernel) ?_
    obtain ⟨hg, hR⟩ := hR
    refine x_iald (pc := 19) rfl (by decide) hg (show decode mX5_isFigureHere.2.1 19 = .ok (.iaload, 1) by decide +kernel) ?_
    refine x_bipush (pc := 20) (n := 48) (show decode mX5_isFigureHere.2.1 20 = .ok (.bipush 48, 2) by decide +kernel) rfl ?_
    obtain ⟨hg, hR⟩ := hR
    refine x_icmp_lt (pc := 22) (tgt := 43) (show decode mX5_isFigureHere.2.1 22 = .ok (.if_icmp .lt 21, 3) by decide +kernel) (by decide) ⟨hg, (by unfold inI; decide)⟩ (fun hc => ?_) (fun hc => ?_)
    · replace hR := hR.1 hc
      refine x_iconst (pc := 43) (n := 0) (show decode mX5_isFigureHere.2.1 43 = .ok (.iconst 0, 1) by decide +kernel) ?_
      exact x_zret (pc := 44) rfl (show decode mX5_isFigureHere.2.1 44 = .ok (.ireturn, 1) by decide +kernel) (by decide) ⟨_, rfl, hR⟩
    · replace hR := hR.2 hc
      refine x_aload_n (pc := 25) (show decode mX5_isFigureHere.2.1 25 = .ok (.aload_n 0, 1) by decide +kernel) rfl rfl ?_
      refine x_getR (pc := 26) f5_9 rfl rfl (show decode mX5_isFigureHere.2.1 26 = .ok (.getfield 9, 3) by decide +kernel) ?_
      refine x_aload_n (pc := 29) (show decode mX5_isFigureHere.2.1 29 = .ok (.aload_n 0, 1) by decide +kernel) rfl rfl ?_
      refine x_getI (pc := 30) (ki := 2) f5_19 rfl rfl (by decide) rfl (show decode mX5_isFigureHere.2.1 30 = .ok (.getfield 19, 3) by decide +kernel) ?_
      obtain ⟨hg, hR⟩ := hR
      refine x_iald (pc := 33) rfl (by decide) hg (show decode mX5_isFigureHere.2.1 33 = .ok (.iaload, 1) by decide +kernel) ?_
      refine x_bipush (pc := 34) (n := 57) (show decode mX5_isFigureHere.2.1 34 = .ok (.bipush 57, 2) by decide +kernel) rfl ?_
      obtain ⟨hg, hR⟩ := hR
      refine x_icmp_gt (pc := 36) (tgt := 43) (show decode mX5_isFigureHere.2.1 36 = .ok (.if_icmp .gt 7, 3) by decide +kernel) (by decide) ⟨hg, (by unfold inI; decide)⟩ (fun hc => ?_) (fun hc => ?_)
      · replace hR := hR.1 hc
        refine x_iconst (pc := 43) (n := 0) (show decode mX5_isFigureHere.2.1 43 = .ok (.iconst 0, 1) by decide +kernel) ?_
        exact x_zret (pc := 44) rfl (show decode mX5_isFigureHere.2.1 44 = .ok (.ireturn, 1) by decide +kernel) (by decide) ⟨_, rfl, hR⟩
      · replace hR := hR.2 hc
        refine x_iconst (pc := 39) (n := 1) (show decode mX5_isFigureHere.2.1 39 = .ok (.iconst 1, 1) by decide +kernel) ?_
        refine x_goto (pc := 40) (tgt := 44) (show decode mX5_isFigureHere.2.1 40 = .ok (.goto 4, 3) by decide +kernel) (by decide) ?_
        exact x_zret (pc := 44) rfl (show decode mX5_isFigureHere.2.1 44 = .ok (.ireturn, 1) by decide +kernel) (by decide) ⟨_, rfl, hR⟩
set_option maxRecDepth 4000 in
theorem sg_X5_readFigure_0 {d : Nat} {h : xH} {Q : Int → xH → Prop}
    (hR : (0 ≤ (h 44 2) ∧ (h 44 2) < 120) ∧ Q ((h 45 (h 44 2)) - 48) (xu h 44 2 ((h 44 2) + 1))) :
    gI wdC d mX5_readFigure 0 [some (.inr (.inr 44)), none] h Q := by
  unfold gI
  refine x_aload_n (pc := 0) (show decode mX5_readFigure.2.1 0 = .ok (.aload_n 0, 1) by decide +kernel) rfl rfl ?_
  refine x_getR (pc := 1) f5_9 rfl rfl (show decode mX5_readFigure.2.1 1 = .ok (.getfield 9, 3) by decide +kernel) ?_
  refine x_aload_n (pc := 4) (show decode mX5_readFigure.2.1 4 = .ok (.aload_n 0, 1) by decide +kernel) rfl rfl ?_
  refine x_getI (pc := 5) (ki := 2) f5_19 rfl rfl (by decide) rfl (show decode mX5_readFigure.2.1 5 = .ok (.getfield 19, 3) by decide +kernel) ?_
  obtain ⟨hg, hR⟩ := hR
  refine x_iald (pc := 8) rfl (by decide) hg (show decode mX5_readFigure.2.1 8 = .ok (.iaload, 1) by decide +kernel) ?_
  refine x_bipush (pc := 9) (n := 48) (show decode mX5_readFigure.2.1 9 = .ok (.bipush 48, 2) by decide +kernel) rfl ?_
  refine x_isub (pc := 11) (show decode mX5_readFigure.2.1 11 = .ok (.isub, 1) by decide +kernel) ?_
  refine x_istore_n (pc := 12) (ls' := [some (.inr (.inr 44)), some (.inl ((h 45 (h 44 2)) - 48))]) (show decode mX5_readFigure.2.1 12 = .ok (.istore_n 1, 1) by decide +kernel) rfl (by decide) rfl ?_
  refine x_aload_n (pc := 13) (show decode mX5_readFigure.2.1 13 = .ok (.aload_n 0, 1) by decide +kernel) rfl rfl ?_
  refine x_dup (pc := 14) (show decode mX5_readFigure.2.1 14 = .ok (.dup, 1) by decide +kernel) rfl ?_
  refine x_getI (pc := 15) (ki := 2) f5_19 rfl rfl (by decide) rfl (show decode mX5_readFigure.2.1 15 = .ok (.getfield 19, 3) by decide +kernel) ?_
  refine x_iconst (pc := 18) (n := 1) (show decode mX5_readFigure.2.1 18 = .ok (.iconst 1, 1) by decide +kernel) ?_
  refine x_iadd (pc := 19) (show decode mX5_readFigure.2.1 19 = .ok (.iadd, 1) by decide +kernel) ?_
  refine x_putI (pc := 20) (ki := 2) f5_19 fp5_2 rfl rfl rfl (show decode mX5_readFigure.2.1 20 = .ok (.putfield 19, 3) by decide +kernel) ?_
  refine x_iload_n (pc := 23) (show decode mX5_readFigure.2.1 23 = .ok (.iload_n 1, 1) by decide +kernel) rfl rfl ?_
  exact x_iret (pc := 24) rfl (show decode mX5_readFigure.2.1 24 = .ok (.ireturn, 1) by decide +kernel) ⟨_, rfl, hR⟩
set_option maxRecDepth 4000 in
theorem sg_X5_skipWord_0 {d : Nat} {h : xH} {Q : xH → Prop}
    (hR : (inI (h 44 2) ∧ inI (h 44 1)) ∧ ((h 44 1) ≤ (h 44 2) → Q h) ∧ ((h 44 2) < (h 44 1) → (0 ≤ (h 44 2) ∧ (h 44 2) < 120) ∧ (inI (h 45 (h 44 2))) ∧ ((h 45 (h 44 2)) < 97 → Q h) ∧ (97 ≤ (h 45 (h 44 2)) → (0 ≤ (h 44 2) ∧ (h 44 2) < 120) ∧ (inI (h 45 (h 44 2))) ∧ (122 < (h 45 (h 44 2)) → Q h) ∧ ((h 45 (h 44 2)) ≤ 122 → gV wdC d mX5_skipWord 0 [some (.inr (.inr 44))] (xu h 44 2 ((h 44 2) + 1)) Q)))) :
    gV wdC d mX5_skipWord 0 [some (.inr (.inr 44))] h Q := by
  unfold gV
  refine x_aload_n (pc := 0) (show decode mX5_skipWord.2.1 0 = .ok (.aload_n 0, 1) by decide +kernel) rfl rfl ?_
  refine x_getI (pc := 1) (ki := 2) f5_19 rfl rfl (by decide) rfl (show decode mX5_skipWord.2.1 1 = .ok (.getfield 19, 3) by decide +kernel) ?_
  refine x_aload_n (pc := 4) (show decode mX5_skipWord.2.1 4 = .ok (.aload_n 0, 1) by decide +kernel) rfl rfl ?_
  refine x_getI (pc := 5) (ki := 1) f5_15 rfl rfl (by decide) rfl (show decode mX5_skipWord.2.1 5 = .ok (.getfield 15, 3) by decide +kernel) ?_
  obtain ⟨hg, hR⟩ := hR
  refine x_icmp_ge (pc := 8) (tgt := 52) (show decode mX5_skipWord.2.1 8 = .ok (.if_icmp .ge 44, 3) by decide +kernel) (by decide) ⟨hg.1, hg.2⟩ (fun hc => ?_) (fun hc => ?_)
  · replace hR := hR.1 hc
    exact x_vret (pc := 52) rfl (show decode mX5_skipWord.2.1 52 = .ok (.return_, 1) by decide +kernel) ⟨rfl, hR⟩
  · replace hR := hR.2 hc
    refine x_aload_n (pc := 11) (show decode mX5_skipWord.2.1 11 = .ok (.aload_n 0, 1) by decide +kernel) rfl rfl ?_
    refine x_getR (pc := 12) f5_9 rfl rfl (show decode mX5_skipWord.2.1 12 = .ok (.getfield 9, 3) by decide +kernel) ?_
    refine x_aload_n (pc := 15) (show decode mX5_skipWord.2.1 15 = .ok (.aload_n 0, 1) by decide +kernel) rfl rfl ?_
    refine x_getI (pc := 16) (ki := 2) f5_19 rfl rfl (by decide) rfl (show decode mX5_skipWord.2.1 16 = .ok (.getfield 19, 3) by decide +kernel) ?_
    obtain ⟨hg, hR⟩ := hR
    refine x_iald (pc := 19) rfl (by decide) hg (show decode mX5_skipWord.2.1 19 = .ok (.iaload, 1) by decide +kernel) ?_
    refine x_bipush (pc := 20) (n := 97) (show decode mX5_skipWord.2.1 20 = .ok (.bipush 97, 2) by decide +kernel) rfl ?_
    obtain ⟨hg, hR⟩ := hR
    refine x_icmp_lt (pc := 22) (tgt := 52) (show decode mX5_skipWord.2.1 22 = .ok (.if_icmp .lt 30, 3) by decide +kernel) (by decide) ⟨hg, (by unfold inI; decide)⟩ (fun hc => ?_) (fun hc => ?_)
    · replace hR := hR.1 hc
      exact x_vret (pc := 52) rfl (show decode mX5_skipWord.2.1 52 = .ok (.return_, 1) by decide +kernel) ⟨rfl, hR⟩
    · replace hR := hR.2 hc
      refine x_aload_n (pc := 25) (show decode mX5_skipWord.2.1 25 = .ok (.aload_n 0, 1) by decide +kernel) rfl rfl ?_
      refine x_getR (pc := 26) f5_9 rfl rfl (show decode mX5_skipWord.2.1 26 = .ok (.getfield 9, 3) by decide +kernel) ?_
      refine x_aload_n (pc := 29) (show decode mX5_skipWord.2.1 29 = .ok (.aload_n 0, 1) by decide +kernel) rfl rfl ?_
      refine x_getI (pc := 30) (ki := 2) f5_19 rfl rfl (by decide) rfl (show decode mX5_skipWord.2.1 30 = .ok (.getfield 19, 3) by decide +kernel) ?_
      obtain ⟨hg, hR⟩ := hR
      refine x_iald (pc := 33) rfl (by decide) hg (show decode mX5_skipWord.2.1 33 = .ok (.iaload, 1) by decide +kernel) ?_
      refine x_bipush (pc := 34) (n := 122) (show decode mX5_skipWord.2.1 34 = .ok (.bipush 122, 2) by decide +kernel) rfl ?_
      obtain ⟨hg, hR⟩ := hR
      refine x_icmp_gt (pc := 36) (tgt := 52) (show decode mX5_skipWord.2.1 36 = .ok (.if_icmp .gt 16, 3) by decide +kernel) (by decide) ⟨hg, (by unfold inI; decide)⟩ (fun hc => ?_) (fun hc => ?_)
      · replace hR := hR.1 hc
        exact x_vret (pc := 52) rfl (show decode mX5_skipWord.2.1 52 = .ok (.return_, 1) by decide +kernel) ⟨rfl, hR⟩
      · replace hR := hR.2 hc
        refine x_aload_n (pc := 39) (show decode mX5_skipWord.2.1 39 = .ok (.aload_n 0, 1) by decide +kernel) rfl rfl ?_
        refine x_dup (pc := 40) (show decode mX5_skipWord.2.1 40 = .ok (.dup, 1) by decide +kernel) rfl ?_
        refine x_getI (pc := 41) (ki := 2) f5_19 rfl rfl (by decide) rfl (show decode mX5_skipWord.2.1 41 = .ok (.getfield 19, 3) by decide +kernel) ?_
        refine x_iconst (pc := 44) (n := 1) (show decode mX5_skipWord.2.1 44 = .ok (.iconst 1, 1) by decide +kernel) ?_
        refine x_iadd (pc := 45) (show decode mX5_skipWord.2.1 45 = .ok (.iadd, 1) by decide +kernel) ?_
        refine x_putI (pc := 46) (ki := 2) f5_19 fp5_2 rfl rfl rfl (show decode mX5_skipWord.2.1 46 = .ok (.putfield 19, 3) by decide +kernel) ?_
        refine x_goto (pc := 49) (tgt := 0) (show decode mX5_skipWord.2.1 49 = .ok (.goto (-49), 3) by decide +kernel) (by decide) ?_
        exact hR
set_option maxRecDepth 4000 in
theorem sg_X5_expect_0 {d : Nat} {x1 : Int} {h : xH} {Q : xH → Prop}
    (hR : (inI (h 44 3)) ∧ ((h 44 3) < 0 → (inI (h 44 2) ∧ inI (h 44 1)) ∧ ((h 44 1) ≤ (h 44 2) → Q (xu h 44 3 (h 44 2))) ∧ ((h 44 2) < (h 44 1) → (0 ≤ (h 44 2) ∧ (h 44 2) < 120) ∧ (inI (h 45 (h 44 2)) ∧ inI x1) ∧ (¬ (h 45 (h 44 2)) = x1 → Q (xu h 44 3 (h 44 2))) ∧ ((h 45 (h 44 2)) = x1 → Q (xu h 44 2 ((h 44 2) + 1))))) ∧ (0 ≤ (h 44 3) → Q h)) :
    gV wdC d mX5_expect 0 [some (.inr (.inr 44)), some (.inl x1)] h Q := by
  unfold gV
  refine x_aload_n (pc := 0) (show decode mX5_expect.2.1 0 = .ok (.aload_n 0, 1) by decide +kernel) rfl rfl ?_
  refine x_getI (pc := 1) (ki := 3) f5_22 rfl rfl (by decide) rfl (show decode mX5_expect.2.1 1 = .ok (.getfield 22, 3) by decide +kernel) ?_
  obtain ⟨hg, hR⟩ := hR
  refine x_if_lt (pc := 4) (tgt := 8) (show decode mX5_expect.2.1 4 = .ok (.ifCond .lt 4, 3) by decide +kernel) (by decide) hg (fun hc => ?_) (fun hc => ?_)
  · replace hR := hR.1 hc
    refine x_aload_n (pc := 8) (show decode mX5_expect.2.1 8 = .ok (.aload_n 0, 1) by decide +kernel) rfl rfl ?_
    refine x_getI (pc := 9) (ki := 2) f5_19 rfl rfl (by decide) rfl (show decode mX5_expect.2.1 9 = .ok (.getfield 19, 3) by decide +kernel) ?_
    refine x_aload_n (pc := 12) (show decode mX5_expect.2.1 12 = .ok (.aload_n 0, 1) by decide +kernel) rfl rfl ?_
    refine x_getI (pc := 13) (ki := 1) f5_15 rfl rfl (by decide) rfl (show decode mX5_expect.2.1 13 = .ok (.getfield 15, 3) by decide +kernel) ?_
    obtain ⟨hg, hR⟩ := hR
    refine x_icmp_ge (pc := 16) (tgt := 45) (show decode mX5_expect.2.1 16 = .ok (.if_icmp .ge 29, 3) by decide +kernel) (by decide) ⟨hg.1, hg.2⟩ (fun hc => ?_) (fun hc => ?_)
    · replace hR := hR.1 hc
      refine x_aload_n (pc := 45) (show decode mX5_expect.2.1 45 = .ok (.aload_n 0, 1) by decide +kernel) rfl rfl ?_
      refine x_aload_n (pc := 46) (show decode mX5_expect.2.1 46 = .ok (.aload_n 0, 1) by decide +kernel) rfl rfl ?_
      refine x_getI (pc := 47) (ki := 2) f5_19 rfl rfl (by decide) rfl (show decode mX5_expect.2.1 47 = .ok (.getfield 19, 3) by decide +kernel) ?_
      refine x_putI (pc := 50) (ki := 3) f5_22 fp5_3 rfl rfl rfl (show decode mX5_expect.2.1 50 = .ok (.putfield 22, 3) by decide +kernel) ?_
      exact x_vret (pc := 53) rfl (show decode mX5_expect.2.1 53 = .ok (.return_, 1) by decide +kernel) ⟨rfl, hR⟩
    · replace hR := hR.2 hc
      refine x_aload_n (pc := 19) (show decode mX5_expect.2.1 19 = .ok (.aload_n 0, 1) by decide +kernel) rfl rfl ?_
      refine x_getR (pc := 20) f5_9 rfl rfl (show decode mX5_expect.2.1 20 = .ok (.getfield 9, 3) by decide +kernel) ?_
      refine x_aload_n (pc := 23) (show decode mX5_expect.2.1 23 = .ok (.aload_n 0, 1) by decide +kernel) rfl rfl ?_
      refine x_getI (pc := 24) (ki := 2) f5_19 rfl rfl (by decide) rfl (show decode mX5_expect.2.1 24 = .ok (.getfield 19, 3) by decide +kernel) ?_
      obtain ⟨hg, hR⟩ := hR
      refine x_iald (pc := 27) rfl (by decide) hg (show decode mX5_expect.2.1 27 = .ok (.iaload, 1) by decide +kernel) ?_
      refine x_iload_n (pc := 28) (show decode mX5_expect.2.1 28 = .ok (.iload_n 1, 1) by decide +kernel) rfl rfl ?_
      obtain ⟨hg, hR⟩ := hR
      refine x_icmp_ne (pc := 29) (tgt := 45) (show decode mX5_expect.2.1 29 = .ok (.if_icmp .ne 16, 3) by decide +kernel) (by decide) ⟨hg.1, hg.2⟩ (fun hc => ?_) (fun hc => ?_)
      · replace hR := hR.1 hc
        refine x_aload_n (pc := 45) (show decode mX5_expect.2.1 45 = .ok (.aload_n 0, 1) by decide +kernel) rfl rfl ?_
        refine x_aload_n (pc := 46) (show decode mX5_expect.2.1 46 = .ok (.aload_n 0, 1) by decide +kernel) rfl rfl ?_
        refine x_getI (pc := 47) (ki := 2) f5_19 rfl rfl (by decide) rfl (show decode mX5_expect.2.1 47 = .ok (.getfield 19, 3) by decide +kernel) ?_
        refine x_putI (pc := 50) (ki := 3) f5_22 fp5_3 rfl rfl rfl (show decode mX5_expect.2.1 50 = .ok (.putfield 22, 3) by decide +kernel) ?_
        exact x_vret (pc := 53) rfl (show decode mX5_expect.2.1 53 = .ok (.return_, 1) by decide +kernel) ⟨rfl, hR⟩
      · replace hR := hR.2 hc
        refine x_aload_n (pc := 32) (show decode mX5_expect.2.1 32 = .ok (.aload_n 0, 1) by decide +kernel) rfl rfl ?_
        refine x_dup (pc := 33) (show decode mX5_expect.2.1 33 = .ok (.dup, 1) by decide +kernel) rfl ?_
        refine x_getI (pc := 34) (ki := 2) f5_19 rfl rfl (by decide) rfl (show decode mX5_expect.2.1 34 = .ok (.getfield 19, 3) by decide +kernel) ?_
        refine x_iconst (pc := 37) (n := 1) (show decode mX5_expect.2.1 37 = .ok (.iconst 1, 1) by decide +kernel) ?_
        refine x_iadd (pc := 38) (show decode mX5_expect.2.1 38 = .ok (.iadd, 1) by decide +kernel) ?_
        refine x_putI (pc := 39) (ki := 2) f5_19 fp5_2 rfl rfl rfl (show decode mX5_expect.2.1 39 = .ok (.putfield 19, 3) by decide +kernel) ?_
        refine x_goto (pc := 42) (tgt := 53) (show decode mX5_expect.2.1 42 = .ok (.goto 11, 3) by decide +kernel) (by decide) ?_
        exact x_vret (pc := 53) rfl (show decode mX5_expect.2.1 53 = .ok (.return_, 1) by decide +kernel) ⟨rfl, hR⟩
  · replace hR := hR.2 hc
    exact x_vret (pc := 7) rfl (show decode mX5_expect.2.1 7 = .ok (.return_, 1) by decide +kernel) ⟨rfl, hR⟩
set_option maxRecDepth 4000 in
theorem sg_X6_gather_0 {d : Nat} {x3 x5 : Int} {h : xH} {Q : Int → xH → Prop}
    (hR : gI wdC d mX6_gather 13 [some (.inr (.inr 32)), some (.inr (.inr 1)), some (.inr (.inr 26)), some (.inr (.inl x3)), none, some (.inr (.inl x5)), none, some (.inl 0)] (xu (xu h 32 0 0) 32 1 1) Q) :
    gI wdC d mX6_gather 0 [some (.inr (.inr 32)), some (.inr (.inr 1)), some (.inr (.inr 26)), some (.inr (.inl x3)), none, some (.inr (.inl x5)), none, none] h Q := by
  unfold gI
  refine x_aload_n (pc := 0) (show decode mX6_gather.2.1 0 = .ok (.aload_n 0, 1) by decide +kernel) rfl rfl ?_
  refine x_iconst (pc := 1) (n := 0) (show decode mX6_gather.2.1 1 = .ok (.iconst 0, 1) by decide +kernel) ?_
  refine x_putI (pc := 2) (ki := 0) f6_9 fp6_0 rfl rfl rfl (show decode mX6_gather.2.1 2 = .ok (.putfield 9, 3) by decide +kernel) ?_
  refine x_aload_n (pc := 5) (show decode mX6_gather.2.1 5 = .ok (.aload_n 0, 1) by decide +kernel) rfl rfl ?_
  refine x_iconst (pc := 6) (n := 1) (show decode mX6_gather.2.1 6 = .ok (.iconst 1, 1) by decide +kernel) ?_
  refine x_putZ (pc := 7) (ki := 1) f6_15 fp6_1 rfl rfl rfl (by decide) (show decode mX6_gather.2.1 7 = .ok (.putfield 15, 3) by decide +kernel) ?_
  refine x_iconst (pc := 10) (n := 0) (show decode mX6_gather.2.1 10 = .ok (.iconst 0, 1) by decide +kernel) ?_
  refine x_istore (pc := 11) (ls' := [some (.inr (.inr 32)), some (.inr (.inr 1)), some (.inr (.inr 26)), some (.inr (.inl x3)), none, some (.inr (.inl x5)), none, some (.inl 0)]) (show decode mX6_gather.2.1 11 = .ok (.istore 7, 2) by decide +kernel) (by decide) rfl ?_
  exact hR
set_option maxRecDepth 4000 in
theorem sg_X6_gather_13 {d : Nat} {x3 x5 x7 : Int} {h : xH} {Q : Int → xH → Prop} (hd : 1 ≤ d)
    (hR : (inI x7 ∧ inI (h 1 2)) ∧ ((h 1 2) ≤ x7 → gI wdC d mX6_gather 106 [some (.inr (.inr 32)), none, some (.inr (.inr 26)), none, none, none, none, some (.inl 0)] h Q) ∧ (x7 < (h 1 2) → cB wdC (d - 1) mX7_hasPin [.inr (.inl x3), .inl x7] h (fun h1 => gI wdC d mX6_gather 13 [some (.inr (.inr 32)), some (.inr (.inr 1)), some (.inr (.inr 26)), some (.inr (.inl x3)), none, some (.inr (.inl x5)), none, some (.inl (x7 + 1))] h1 Q) (fun h1 => (inI (h1 32 0)) ∧ ((h1 32 0) < 12 → (0 ≤ (h1 32 0) ∧ (h1 32 0) < 12) ∧ (0 ≤ x7 ∧ x7 < 30) ∧ (0 ≤ (h1 32 0) ∧ (h1 32 0) < 12) ∧ cB wdC (d - 1) mX7_hasPin [.inr (.inl x5), .inl x7] (xu (xu (xu h1 33 (h1 32 0) x7) 34 (h1 32 0) (h1 3 x7)) 32 0 ((h1 32 0) + 1)) (fun h2 => gI wdC d mX6_gather 13 [some (.inr (.inr 32)), some (.inr (.inr 1)), some (.inr (.inr 26)), some (.inr (.inl x3)), none, some (.inr (.inl x5)), none, some (.inl (x7 + 1))] (xu h2 32 1 0) Q) (fun h2 => gI wdC d mX6_gather 13 [some (.inr (.inr 32)), some (.inr (.inr 1)), some (.inr (.inr 26)), some (.inr (.inl x3)), none, some (.inr (.inl x5)), none, some (.inl (x7 + 1))] h2 Q)) ∧ (12 ≤ (h1 32 0) → Q 0 h1)))) :
    gI wdC d mX6_gather 13 [some (.inr (.inr 32)), some (.inr (.inr 1)), some (.inr (.inr 26)), some (.inr (.inl x3)), none, some (.inr (.inl x5)), none, some (.inl x7)] h Q := by
  unfold gI
  refine x_iload (pc := 13) (show decode mX6_gather.2.1 13 = .ok (.iload 7, 2) by decide +kernel) rfl ?_
  refine x_aload_n (pc := 15) (show decode mX6_gather.2.1 15 = .ok (.aload_n 1, 1) by decide +kernel) rfl rfl ?_
  refine x_getI (pc := 16) (ki := 2) f6_41 rfl rfl (by decide) rfl (show decode mX6_gather.2.1 16 = .ok (.getfield 41, 3) by decide +kernel) ?_
  obtain ⟨hg, hR⟩ := hR
  refine x_icmp_ge (pc := 19) (tgt := 103) (show decode mX6_gather.2.1 19 = .ok (.if_icmp .ge 84, 3) by decide +kernel) (by decide) ⟨hg.1, hg.2⟩ (fun hc => ?_) (fun hc => ?_)
  · replace hR := hR.1 hc
    refine x_iconst (pc := 103) (n := 0) (show decode mX6_gather.2.1 103 = .ok (.iconst 0, 1) by decide +kernel) ?_
    refine x_istore (pc := 104) (ls' := [some (.inr (.inr 32)), some (.inr (.inr 1)), some (.inr (.inr 26)), some (.inr (.inl x3)), none, some (.inr (.inl x5)), none, some (.inl 0)]) (show decode mX6_gather.2.1 104 = .ok (.istore 7, 2) by decide +kernel) (by decide) rfl ?_
    exact x_weak (xle_get (by repeat' constructor)) hR
  · replace hR := hR.2 hc
    refine x_lload_n (pc := 22) (show decode mX6_gather.2.1 22 = .ok (.lload_n 3, 1) by decide +kernel) rfl rfl ?_
    refine x_iload (pc := 23) (show decode mX6_gather.2.1 23 = .ok (.iload 7, 2) by decide +kernel) rfl ?_
    refine x_callSN (pc := 25) (As := [.inr (.inl x3), .inl x7]) (rest := []) (lk6_46 rfl) sm_X7_hasPin (Nat.le_of_ble_eq_true rfl) (Nat.le_of_ble_eq_true rfl) (show decode mX6_gather.2.1 25 = .ok (.invokestatic 46, 3) by decide +kernel) hd hR (fun r9 h1 hq => ?_)
    obtain ⟨r8, rfl, hq⟩ := hq
    rcases hq with ⟨rfl, hR⟩ | ⟨rfl, hR⟩
    · show xG _ _ _ 28 _ [.inl 1] _ _
      refine x_if_eq (pc := 28) (tgt := 34) (show decode mX6_gather.2.1 28 = .ok (.ifCond .eq 6, 3) by decide +kernel) (by decide) (by unfold inI; decide) (fun hc => absurd hc (by decide)) (fun _ => ?_)
      refine x_goto (pc := 31) (tgt := 97) (show decode mX6_gather.2.1 31 = .ok (.goto 66, 3) by decide +kernel) (by decide) ?_
      refine x_iinc (pc := 97) (ls' := [some (.inr (.inr 32)), some (.inr (.inr 1)), some (.inr (.inr 26)), some (.inr (.inl x3)), none, some (.inr (.inl x5)), none, some (.inl (x7 + 1))]) (show decode mX6_gather.2.1 97 = .ok (.iinc 7 1, 3) by decide +kernel) (by decide) rfl rfl ?_
      refine x_goto (pc := 100) (tgt := 13) (show decode mX6_gather.2.1 100 = .ok (.goto (-87), 3) by decide +kernel) (by decide) ?_
      exact hR
    · show xG _ _ _ 28 _ [.inl 0] _ _
      refine x_if_eq (pc := 28) (tgt := 34) (show decode mX6_gather.2.1 28 = .ok (.ifCond .eq 6, 3) by decide +kernel) (by decide) (by unfold inI; decide) (fun _ => ?_) (fun hc => absurd hc (by decide))
      refine x_aload_n (pc := 34) (show decode mX6_gather.2.1 34 = .ok (.aload_n 0, 1) by decide +kernel) rfl rfl ?_
      refine x_getI (pc := 35) (ki := 0) f6_9 rfl rfl (by decide) rfl (show decode mX6_gather.2.1 35 = .ok (.getfield 9, 3) by decide +kernel) ?_
      refine x_bipush (pc := 38) (n := 12) (show decode mX6_gather.2.1 38 = .ok (.bipush 12, 2) by decide +kernel) rfl ?_
      obtain ⟨hg, hR⟩ := hR
      refine x_icmp_lt (pc := 40) (tgt := 45) (show decode mX6_gather.2.1 40 = .ok (.if_icmp .lt 5, 3) by decide +kernel) (by decide) ⟨hg, (by unfold inI; decide)⟩ (fun hc => ?_) (fun hc => ?_)
      · replace hR := hR.1 hc
        refine x_aload_n (pc := 45) (show decode mX6_gather.2.1 45 = .ok (.aload_n 0, 1) by decide +kernel) rfl rfl ?_
        refine x_getR (pc := 46) f6_19 rfl rfl (show decode mX6_gather.2.1 46 = .ok (.getfield 19, 3) by decide +kernel) ?_
        refine x_aload_n (pc := 49) (show decode mX6_gather.2.1 49 = .ok (.aload_n 0, 1) by decide +kernel) rfl rfl ?_
        refine x_getI (pc := 50) (ki := 0) f6_9 rfl rfl (by decide) rfl (show decode mX6_gather.2.1 50 = .ok (.getfield 9, 3) by decide +kernel) ?_
        refine x_iload (pc := 53) (show decode mX6_gather.2.1 53 = .ok (.iload 7, 2) by decide +kernel) rfl ?_
        obtain ⟨hg, hR⟩ := hR
        refine x_iast (pc := 55) rfl (by decide) hg (show decode mX6_gather.2.1 55 = .ok (.iastore, 1) by decide +kernel) ?_
        refine x_aload_n (pc := 56) (show decode mX6_gather.2.1 56 = .ok (.aload_n 0, 1) by decide +kernel) rfl rfl ?_
        refine x_getR (pc := 57) f6_23 rfl rfl (show decode mX6_gather.2.1 57 = .ok (.getfield 23, 3) by decide +kernel) ?_
        refine x_aload_n (pc := 60) (show decode mX6_gather.2.1 60 = .ok (.aload_n 0, 1) by decide +kernel) rfl rfl ?_
        refine x_getI (pc := 61) (ki := 0) f6_9 rfl rfl (by decide) rfl (show decode mX6_gather.2.1 61 = .ok (.getfield 9, 3) by decide +kernel) ?_
        refine x_aload_n (pc := 64) (show decode mX6_gather.2.1 64 = .ok (.aload_n 1, 1) by decide +kernel) rfl rfl ?_
        refine x_getR (pc := 65) f6_50 rfl rfl (show decode mX6_gather.2.1 65 = .ok (.getfield 50, 3) by decide +kernel) ?_
        refine x_iload (pc := 68) (show decode mX6_gather.2.1 68 = .ok (.iload 7, 2) by decide +kernel) rfl ?_
        obtain ⟨hg, hR⟩ := hR
        refine x_iald (pc := 70) rfl (by decide) hg (show decode mX6_gather.2.1 70 = .ok (.iaload, 1) by decide +kernel) ?_
        obtain ⟨hg, hR⟩ := hR
        refine x_iast (pc := 71) rfl (by decide) hg (show decode mX6_gather.2.1 71 = .ok (.iastore, 1) by decide +kernel) ?_
        refine x_aload_n (pc := 72) (show decode mX6_gather.2.1 72 = .ok (.aload_n 0, 1) by decide +kernel) rfl rfl ?_
        refine x_dup (pc := 73) (show decode mX6_gather.2.1 73 = .ok (.dup, 1) by decide +kernel) rfl ?_
        refine x_getI (pc := 74) (ki := 0) f6_9 rfl rfl (by decide) rfl (show decode mX6_gather.2.1 74 = .ok (.getfield 9, 3) by decide +kernel) ?_
        refine x_iconst (pc := 77) (n := 1) (show decode mX6_gather.2.1 77 = .ok (.iconst 1, 1) by decide +kernel) ?_
        refine x_iadd (pc := 78) (show decode mX6_gather.2.1 78 = .ok (.iadd, 1) by decide +kernel) ?_
        refine x_putI (pc := 79) (ki := 0) f6_9 fp6_0 rfl rfl rfl (show decode mX6_gather.2.1 79 = .ok (.putfield 9, 3) by decide +kernel) ?_
        refine x_lload (pc := 82) (show decode mX6_gather.2.1 82 = .ok (.lload 5, 2) by decide +kernel) rfl ?_
        refine x_iload (pc := 84) (show decode mX6_gather.2.1 84 = .ok (.iload 7, 2) by decide +kernel) rfl ?_
        refine x_callSN (pc := 86) (As := [.inr (.inl x5), .inl x7]) (rest := []) (lk6_46 rfl) sm_X7_hasPin (Nat.le_of_ble_eq_true rfl) (Nat.le_of_ble_eq_true rfl) (show decode mX6_gather.2.1 86 = .ok (.invokestatic 46, 3) by decide +kernel) hd hR (fun r9 h2 hq => ?_)
        obtain ⟨r8, rfl, hq⟩ := hq
        rcases hq with ⟨rfl, hR⟩ | ⟨rfl, hR⟩
        · show xG _ _ _ 89 _ [.inl 1] _ _
          refine x_if_eq (pc := 89) (tgt := 97) (show decode mX6_gather.2.1 89 = .ok (.ifCond .eq 8, 3) by decide +kernel) (by decide) (by unfold inI; decide) (fun hc => absurd hc (by decide)) (fun _ => ?_)
          refine x_aload_n (pc := 92) (show decode mX6_gather.2.1 92 = .ok (.aload_n 0, 1) by decide +kernel) rfl rfl ?_
          refine x_iconst (pc := 93) (n := 0) (show decode mX6_gather.2.1 93 = .ok (.iconst 0, 1) by decide +kernel) ?_
          refine x_putZ (pc := 94) (ki := 1) f6_15 fp6_1 rfl rfl rfl (by decide) (show decode mX6_gather.2.1 94 = .ok (.putfield 15, 3) by decide +kernel) ?_
          refine x_iinc (pc := 97) (ls' := [some (.inr (.inr 32)), some (.inr (.inr 1)), some (.inr (.inr 26)), some (.inr (.inl x3)), none, some (.inr (.inl x5)), none, some (.inl (x7 + 1))]) (show decode mX6_gather.2.1 97 = .ok (.iinc 7 1, 3) by decide +kernel) (by decide) rfl rfl ?_
          refine x_goto (pc := 100) (tgt := 13) (show decode mX6_gather.2.1 100 = .ok (.goto (-87), 3) by decide +kernel) (by decide) ?_
          exact hR
        · show xG _ _ _ 89 _ [.inl 0] _ _
          refine x_if_eq (pc := 89) (tgt := 97) (show decode mX6_gather.2.1 89 = .ok (.ifCond .eq 8, 3) by decide +kernel) (by decide) (by unfold inI; decide) (fun _ => ?_) (fun hc => absurd hc (by decide))
          refine x_iinc (pc := 97) (ls' := [some (.inr (.inr 32)), some (.inr (.inr 1)), some (.inr (.inr 26)), some (.inr (.inl x3)), none, some (.inr (.inl x5)), none, some (.inl (x7 + 1))]) (show decode mX6_gather.2.1 97 = .ok (.iinc 7 1, 3) by decide +kernel) (by decide) rfl rfl ?_
          refine x_goto (pc := 100) (tgt := 13) (show decode mX6_gather.2.1 100 = .ok (.goto (-87), 3) by decide +kernel) (by decide) ?_
          exact hR
      · replace hR := hR.2 hc
        refine x_iconst (pc := 43) (n := 0) (show decode mX6_gather.2.1 43 = .ok (.iconst 0, 1) by decide +kernel) ?_
        exact x_zret (pc := 44) rfl (show decode mX6_gather.2.1 44 = .ok (.ireturn, 1) by decide +kernel) (by decide) ⟨_, rfl, hR⟩
set_option maxRecDepth 4000 in
theorem sg_X6_gather_106 {d : Nat} {x7 : Int} {h : xH} {Q : Int → xH → Prop} (hd : 1 ≤ d)
    (hR : (inI x7 ∧ inI (h 32 0)) ∧ ((h 32 0) ≤ x7 → cV wdC (d - 1) mX6_markMet [.inr (.inr 32)] h (fun h1 => Q 1 h1)) ∧ (x7 < (h 32 0) → (0 ≤ x7 ∧ x7 < 12) ∧ (0 ≤ (h 33 x7) ∧ (h 33 x7) < 30) ∧ cI wdC (d - 1) mX6_amongLeft [.inr (.inr 32), .inr (.inl (h 28 (h 33 x7)))] h (fun r3 h2 => (0 ≤ x7 ∧ x7 < 12) ∧ gI wdC d mX6_gather 106 [some (.inr (.inr 32)), none, some (.inr (.inr 26)), none, none, none, none, some (.inl (x7 + 1))] (xu h2 35 x7 r3) Q))) :
    gI wdC d mX6_gather 106 [some (.inr (.inr 32)), none, some (.inr (.inr 26)), none, none, none, none, some (.inl x7)] h Q := by
  unfold gI
  refine x_iload (pc := 106) (show decode mX6_gather.2.1 106 = .ok (.iload 7, 2) by decide +kernel) rfl ?_
  refine x_aload_n (pc := 108) (show decode mX6_gather.2.1 108 = .ok (.aload_n 0, 1) by decide +kernel) rfl rfl ?_
  refine x_getI (pc := 109) (ki := 0) f6_9 rfl rfl (by decide) rfl (show decode mX6_gather.2.1 109 = .ok (.getfield 9, 3) by decide +kernel) ?_
  obtain ⟨hg, hR⟩ := hR
  refine x_icmp_ge (pc := 112) (tgt := 144) (show decode mX6_gather.2.1 112 = .ok (.if_icmp .ge 32, 3) by decide +kernel) (by decide) ⟨hg.1, hg.2⟩ (fun hc => ?_) (fun hc => ?_)
  · replace hR := hR.1 hc
    refine x_aload_n (pc := 144) (show decode mX6_gather.2.1 144 = .ok (.aload_n 0, 1) by decide +kernel) rfl rfl ?_
    refine x_callV (pc := 145) (As := []) (rest := []) (lk6_62 rfl) im_X6_markMet sl_X6_markMet rfl rfl rfl (Nat.le_of_ble_eq_true rfl) (Nat.le_of_ble_eq_true rfl) (show decode mX6_gather.2.1 145 = .ok (.invokevirtual 62, 3) by decide +kernel) hd hR (fun r9 h1 hq => ?_)
    obtain ⟨rfl, hR⟩ := hq
    show xG _ _ _ 148 _ [] _ _
    refine x_iconst (pc := 148) (n := 1) (show decode mX6_gather.2.1 148 = .ok (.iconst 1, 1) by decide +kernel) ?_
    exact x_zret (pc := 149) rfl (show decode mX6_gather.2.1 149 = .ok (.ireturn, 1) by decide +kernel) (by decide) ⟨_, rfl, hR⟩
  · replace hR := hR.2 hc
    refine x_aload_n (pc := 115) (show decode mX6_gather.2.1 115 = .ok (.aload_n 0, 1) by decide +kernel) rfl rfl ?_
    refine x_getR (pc := 116) f6_26 rfl rfl (show decode mX6_gather.2.1 116 = .ok (.getfield 26, 3) by decide +kernel) ?_
    refine x_iload (pc := 119) (show decode mX6_gather.2.1 119 = .ok (.iload 7, 2) by decide +kernel) rfl ?_
    refine x_aload_n (pc := 121) (show decode mX6_gather.2.1 121 = .ok (.aload_n 0, 1) by decide +kernel) rfl rfl ?_
    refine x_aload_n (pc := 122) (show decode mX6_gather.2.1 122 = .ok (.aload_n 2, 1) by decide +kernel) rfl rfl ?_
    refine x_getR (pc := 123) f6_53 rfl rfl (show decode mX6_gather.2.1 123 = .ok (.getfield 53, 3) by decide +kernel) ?_
    refine x_aload_n (pc := 126) (show decode mX6_gather.2.1 126 = .ok (.aload_n 0, 1) by decide +kernel) rfl rfl ?_
    refine x_getR (pc := 127) f6_19 rfl rfl (show decode mX6_gather.2.1 127 = .ok (.getfield 19, 3) by decide +kernel) ?_
    refine x_iload (pc := 130) (show decode mX6_gather.2.1 130 = .ok (.iload 7, 2) by decide +kernel) rfl ?_
    obtain ⟨hg, hR⟩ := hR
    refine x_iald (pc := 132) rfl (by decide) hg (show decode mX6_gather.2.1 132 = .ok (.iaload, 1) by decide +kernel) ?_
    obtain ⟨hg, hR⟩ := hR
    refine x_lald (pc := 133) rfl (by decide) hg (show decode mX6_gather.2.1 133 = .ok (.laload, 1) by decide +kernel) ?_
    refine x_callV (pc := 134) (As := [.inr (.inl (h 28 (h 33 x7)))]) (rest := [.inl x7, .inr (.inr 35)]) (lk6_58 rfl) im_X6_amongLeft sl_X6_amongLeft rfl rfl rfl (Nat.le_of_ble_eq_true rfl) (Nat.le_of_ble_eq_true rfl) (show decode mX6_gather.2.1 134 = .ok (.invokevirtual 58, 3) by decide +kernel) hd hR (fun r9 h2 hq => ?_)
    obtain ⟨r3, rfl, hR⟩ := hq
    show xG _ _ _ 137 _ [.inl r3, .inl x7, .inr (.inr 35)] _ _
    obtain ⟨hg, hR⟩ := hR
    refine x_iast (pc := 137) rfl (by decide) hg (show decode mX6_gather.2.1 137 = .ok (.iastore, 1) by decide +kernel) ?_
    refine x_iinc (pc := 138) (ls' := [some (.inr (.inr 32)), none, some (.inr (.inr 26)), none, none, none, none, some (.inl (x7 + 1))]) (show decode mX6_gather.2.1 138 = .ok (.iinc 7 1, 3) by decide +kernel) (by decide) rfl rfl ?_
    refine x_goto (pc := 141) (tgt := 106) (show decode mX6_gather.2.1 141 = .ok (.goto (-35), 3) by decide +kernel) (by decide) ?_
    exact hR
set_option maxRecDepth 4000 in
theorem sg_X6_amongLeft_0 {d : Nat} {x1 : Int} {h : xH} {Q : Int → xH → Prop}
    (hR : gI wdC d mX6_amongLeft 5 [some (.inr (.inr 32)), some (.inr (.inl x1)), none, some (.inl 0), some (.inl 0)] h Q) :
    gI wdC d mX6_amongLeft 0 [some (.inr (.inr 32)), some (.inr (.inl x1)), none, none, none] h Q := by
  unfold gI
  refine x_iconst (pc := 0) (n := 0) (show decode mX6_amongLeft.2.1 0 = .ok (.iconst 0, 1) by decide +kernel) ?_
  refine x_istore_n (pc := 1) (ls' := [some (.inr (.inr 32)), some (.inr (.inl x1)), none, some (.inl 0), none]) (show decode mX6_amongLeft.2.1 1 = .ok (.istore_n 3, 1) by decide +kernel) rfl (by decide) rfl ?_
  refine x_iconst (pc := 2) (n := 0) (show decode mX6_amongLeft.2.1 2 = .ok (.iconst 0, 1) by decide +kernel) ?_
  refine x_istore (pc := 3) (ls' := [some (.inr (.inr 32)), some (.inr (.inl x1)), none, some (.inl 0), some (.inl 0)]) (show decode mX6_amongLeft.2.1 3 = .ok (.istore 4, 2) by decide +kernel) (by decide) rfl ?_
  exact hR
set_option maxRecDepth 4000 in
theorem sg_X6_amongLeft_5 {d : Nat} {x1 x3 x4 : Int} {h : xH} {Q : Int → xH → Prop} (hd : 1 ≤ d)
    (hR : (inI x4 ∧ inI (h 32 0)) ∧ ((h 32 0) ≤ x4 → Q x3 h) ∧ (x4 < (h 32 0) → (0 ≤ x4 ∧ x4 < 12) ∧ cB wdC (d - 1) mX7_hasPin [.inr (.inl x1), .inl (h 33 x4)] h (fun h1 => (0 ≤ x4 ∧ x4 ≤ 31) ∧ gI wdC d mX6_amongLeft 5 [some (.inr (.inr 32)), some (.inr (.inl x1)), none, some (.inl (xorI x3 (1 * 2 ^ (Int.toNat x4)))), some (.inl (x4 + 1))] h1 Q) (fun h1 => gI wdC d mX6_amongLeft 5 [some (.inr (.inr 32)), some (.inr (.inl x1)), none, some (.inl x3), some (.inl (x4 + 1))] h1 Q))) :
    gI wdC d mX6_amongLeft 5 [some (.inr (.inr 32)), some (.inr (.inl x1)), none, some (.inl x3), some (.inl x4)] h Q := by
  unfold gI
  refine x_iload (pc := 5) (show decode mX6_amongLeft.2.1 5 = .ok (.iload 4, 2) by decide +kernel) rfl ?_
  refine x_aload_n (pc := 7) (show decode mX6_amongLeft.2.1 7 = .ok (.aload_n 0, 1) by decide +kernel) rfl rfl ?_
  refine x_getI (pc := 8) (ki := 0) f6_9 rfl rfl (by decide) rfl (show decode mX6_amongLeft.2.1 8 = .ok (.getfield 9, 3) by decide +kernel) ?_
  obtain ⟨hg, hR⟩ := hR
  refine x_icmp_ge (pc := 11) (tgt := 41) (show decode mX6_amongLeft.2.1 11 = .ok (.if_icmp .ge 30, 3) by decide +kernel) (by decide) ⟨hg.1, hg.2⟩ (fun hc => ?_) (fun hc => ?_)
  · replace hR := hR.1 hc
    refine x_iload_n (pc := 41) (show decode mX6_amongLeft.2.1 41 = .ok (.iload_n 3, 1) by decide +kernel) rfl rfl ?_
    exact x_iret (pc := 42) rfl (show decode mX6_amongLeft.2.1 42 = .ok (.ireturn, 1) by decide +kernel) ⟨_, rfl, hR⟩
  · replace hR := hR.2 hc
    refine x_lload_n (pc := 14) (show decode mX6_amongLeft.2.1 14 = .ok (.lload_n 1, 1) by decide +kernel) rfl rfl ?_
    refine x_aload_n (pc := 15) (show decode mX6_amongLeft.2.1 15 = .ok (.aload_n 0, 1) by decide +kernel) rfl rfl ?_
    refine x_getR (pc := 16) f6_19 rfl rfl (show decode mX6_amongLeft.2.1 16 = .ok (.getfield 19, 3) by decide +kernel) ?_
    refine x_iload (pc := 19) (show decode mX6_amongLeft.2.1 19 = .ok (.iload 4, 2) by decide +kernel) rfl ?_
    obtain ⟨hg, hR⟩ := hR
    refine x_iald (pc := 21) rfl (by decide) hg (show decode mX6_amongLeft.2.1 21 = .ok (.iaload, 1) by decide +kernel) ?_
    refine x_callSN (pc := 22) (As := [.inr (.inl x1), .inl (h 33 x4)]) (rest := []) (lk6_46 rfl) sm_X7_hasPin (Nat.le_of_ble_eq_true rfl) (Nat.le_of_ble_eq_true rfl) (show decode mX6_amongLeft.2.1 22 = .ok (.invokestatic 46, 3) by decide +kernel) hd hR (fun r9 h1 hq => ?_)
    obtain ⟨r8, rfl, hq⟩ := hq
    rcases hq with ⟨rfl, hR⟩ | ⟨rfl, hR⟩
    · show xG _ _ _ 25 _ [.inl 1] _ _
      refine x_if_eq (pc := 25) (tgt := 35) (show decode mX6_amongLeft.2.1 25 = .ok (.ifCond .eq 10, 3) by decide +kernel) (by decide) (by unfold inI; decide) (fun hc => absurd hc (by decide)) (fun _ => ?_)
      refine x_iload_n (pc := 28) (show decode mX6_amongLeft.2.1 28 = .ok (.iload_n 3, 1) by decide +kernel) rfl rfl ?_
      refine x_iconst (pc := 29) (n := 1) (show decode mX6_amongLeft.2.1 29 = .ok (.iconst 1, 1) by decide +kernel) ?_
      refine x_iload (pc := 30) (show decode mX6_amongLeft.2.1 30 = .ok (.iload 4, 2) by decide +kernel) rfl ?_
      obtain ⟨hg, hR⟩ := hR
      refine x_ishl (pc := 32) (show decode mX6_amongLeft.2.1 32 = .ok (.ishl, 1) by decide +kernel) hg ?_
      refine x_ior (pc := 33) (show decode mX6_amongLeft.2.1 33 = .ok (.ior, 1) by decide +kernel) ?_
      refine x_istore_n (pc := 34) (ls' := [some (.inr (.inr 32)), some (.inr (.inl x1)), none, some (.inl (xorI x3 (1 * 2 ^ (Int.toNat x4)))), some (.inl x4)]) (show decode mX6_amongLeft.2.1 34 = .ok (.istore_n 3, 1) by decide +kernel) rfl (by decide) rfl ?_
      refine x_iinc (pc := 35) (ls' := [some (.inr (.inr 32)), some (.inr (.inl x1)), none, some (.inl (xorI x3 (1 * 2 ^ (Int.toNat x4)))), some (.inl (x4 + 1))]) (show decode mX6_amongLeft.2.1 35 = .ok (.iinc 4 1, 3) by decide +kernel) (by decide) rfl rfl ?_
      refine x_goto (pc := 38) (tgt := 5) (show decode mX6_amongLeft.2.1 38 = .ok (.goto (-33), 3) by decide +kernel) (by decide) ?_
      exact hR
    · show xG _ _ _ 25 _ [.inl 0] _ _
      refine x_if_eq (pc := 25) (tgt := 35) (show decode mX6_amongLeft.2.1 25 = .ok (.ifCond .eq 10, 3) by decide +kernel) (by decide) (by unfold inI; decide) (fun _ => ?_) (fun hc => absurd hc (by decide))
      refine x_iinc (pc := 35) (ls' := [some (.inr (.inr 32)), some (.inr (.inl x1)), none, some (.inl x3), some (.inl (x4 + 1))]) (show decode mX6_amongLeft.2.1 35 = .ok (.iinc 4 1, 3) by decide +kernel) (by decide) rfl rfl ?_
      refine x_goto (pc := 38) (tgt := 5) (show decode mX6_amongLeft.2.1 38 = .ok (.goto (-33), 3) by decide +kernel) (by decide) ?_
      exact hR
set_option maxRecDepth 4000 in
theorem sg_X6_wholeSet_0 {d : Nat} {h : xH} {Q : Int → xH → Prop}
    (hR : (0 ≤ (h 32 0) ∧ (h 32 0) ≤ 31) ∧ Q ((1 * 2 ^ (Int.toNat (h 32 0))) - 1) h) :
    gI wdC d mX6_wholeSet 0 [some (.inr (.inr 32))] h Q := by
  unfold gI
  refine x_iconst (pc := 0) (n := 1) (show decode mX6_wholeSet.2.1 0 = .ok (.iconst 1, 1) by decide +kernel) ?_
  refine x_aload_n (pc := 1) (show decode mX6_wholeSet.2.1 1 = .ok (.aload_n 0, 1) by decide +kernel) rfl rfl ?_
  refine x_getI (pc := 2) (ki := 0) f6_9 rfl rfl (by decide) rfl (show decode mX6_wholeSet.2.1 2 = .ok (.getfield 9, 3) by decide +kernel) ?_
  obtain ⟨hg, hR⟩ := hR
  refine x_ishl (pc := 5) (show decode mX6_wholeSet.2.1 5 = .ok (.ishl, 1) by decide +kernel) hg ?_
  refine x_iconst (pc := 6) (n := 1) (show decode mX6_wholeSet.2.1 6 = .ok (.iconst 1, 1) by decide +kernel) ?_
  refine x_isub (pc := 7) (show decode mX6_wholeSet.2.1 7 = .ok (.isub, 1) by decide +kernel) ?_
  exact x_iret (pc := 8) rfl (show decode mX6_wholeSet.2.1 8 = .ok (.ireturn, 1) by decide +kernel) ⟨_, rfl, hR⟩
set_option maxRecDepth 4000 in
theorem sg_X6_comesNext_0 {d : Nat} {x1 x2 : Int} {h : xH} {Q : Int → xH → Prop}
    (hR : (inI x1 ∧ 0 ≤ x2 ∧ x2 ≤ 31) ∧ (inI (xandI (x1 / 2 ^ (Int.toNat x2)) 1)) ∧ (¬ (xandI (x1 / 2 ^ (Int.toNat x2)) 1) = 0 → Q 0 h) ∧ ((xandI (x1 / 2 ^ (Int.toNat x2)) 1) = 0 → (0 ≤ x2 ∧ x2 < 12) ∧ (inI (xandI (h 35 x2) (xxorI x1 (-1)))) ∧ (¬ (xandI (h 35 x2) (xxorI x1 (-1))) = 0 → Q 0 h) ∧ ((xandI (h 35 x2) (xxorI x1 (-1))) = 0 → Q 1 h))) :
    gI wdC d mX6_comesNext 0 [some (.inr (.inr 32)), some (.inl x1), some (.inl x2)] h Q := by
  unfold gI
  refine x_iload_n (pc := 0) (show decode mX6_comesNext.2.1 0 = .ok (.iload_n 1, 1) by decide +kernel) rfl rfl ?_
  refine x_iload_n (pc := 1) (show decode mX6_comesNext.2.1 1 = .ok (.iload_n 2, 1) by decide +kernel) rfl rfl ?_
  obtain ⟨hg, hR⟩ := hR
  refine x_ishr (pc := 2) (show decode mX6_comesNext.2.1 2 = .ok (.ishr, 1) by decide +kernel) hg ?_
  refine x_iconst (pc := 3) (n := 1) (show decode mX6_comesNext.2.1 3 = .ok (.iconst 1, 1) by decide +kernel) ?_
  refine x_iand (pc := 4) (show decode mX6_comesNext.2.1 4 = .ok (.iand, 1) by decide +kernel) ?_
  obtain ⟨hg, hR⟩ := hR
  refine x_if_ne (pc := 5) (tgt := 25) (show decode mX6_comesNext.2.1 5 = .ok (.ifCond .ne 20, 3) by decide +kernel) (by decide) hg (fun hc => ?_) (fun hc => ?_)
  · replace hR := hR.1 hc
    refine x_iconst (pc := 25) (n := 0) (show decode mX6_comesNext.2.1 25 = .ok (.iconst 0, 1) by decide +kernel) ?_
    exact x_zret (pc := 26) rfl (show decode mX6_comesNext.2.1 26 = .ok (.ireturn, 1) by decide +kernel) (by decide) ⟨_, rfl, hR⟩
  · replace hR := hR.2 hc
    refine x_aload_n (pc := 8) (show decode mX6_comesNext.2.1 8 = .ok (.aload_n 0, 1) by decide +kernel) rfl rfl ?_
    refine x_getR (pc := 9) f6_26 rfl rfl (show decode mX6_comesNext.2.1 9 = .ok (.getfield 26, 3) by decide +kernel) ?_
    refine x_iload_n (pc := 12) (show decode mX6_comesNext.2.1 12 = .ok (.iload_n 2, 1) by decide +kernel) rfl rfl ?_
    obtain ⟨hg, hR⟩ := hR
    refine x_iald (pc := 13) rfl (by decide) hg (show decode mX6_comesNext.2.1 13 = .ok (.iaload, 1) by decide +kernel) ?_
    refine x_iload_n (pc := 14) (show decode mX6_comesNext.2.1 14 = .ok (.iload_n 1, 1) by decide +kernel) rfl rfl ?_
    refine x_iconst (pc := 15) (n := (-1)) (show decode mX6_comesNext.2.1 15 = .ok (.iconst (-1), 1) by decide +kernel) ?_
    refine x_ixor (pc := 16) (show decode mX6_comesNext.2.1 16 = .ok (.ixor, 1) by decide +kernel) ?_
    refine x_iand (pc := 17) (show decode mX6_comesNext.2.1 17 = .ok (.iand, 1) by decide +kernel) ?_
    obtain ⟨hg, hR⟩ := hR
    refine x_if_ne (pc := 18) (tgt := 25) (show decode mX6_comesNext.2.1 18 = .ok (.ifCond .ne 7, 3) by decide +kernel) (by decide) hg (fun hc => ?_) (fun hc => ?_)
    · replace hR := hR.1 hc
      refine x_iconst (pc := 25) (n := 0) (show decode mX6_comesNext.2.1 25 = .ok (.iconst 0, 1) by decide +kernel) ?_
      exact x_zret (pc := 26) rfl (show decode mX6_comesNext.2.1 26 = .ok (.ireturn, 1) by decide +kernel) (by decide) ⟨_, rfl, hR⟩
    · replace hR := hR.2 hc
      refine x_iconst (pc := 21) (n := 1) (show decode mX6_comesNext.2.1 21 = .ok (.iconst 1, 1) by decide +kernel) ?_
      refine x_goto (pc := 22) (tgt := 26) (show decode mX6_comesNext.2.1 22 = .ok (.goto 4, 3) by decide +kernel) (by decide) ?_
      exact x_zret (pc := 26) rfl (show decode mX6_comesNext.2.1 26 = .ok (.ireturn, 1) by decide +kernel) (by decide) ⟨_, rfl, hR⟩
set_option maxRecDepth 4000 in
theorem sg_X6_markMet_0 {d : Nat} {h : xH} {Q : xH → Prop} (hd : 1 ≤ d)
    (hR : cI wdC (d - 1) mX6_wholeSet [.inr (.inr 32)] h (fun r2 h1 => gV wdC d mX6_markMet 7 [some (.inr (.inr 32)), some (.inl r2), some (.inl 1), none] h1 Q)) :
    gV wdC d mX6_markMet 0 [some (.inr (.inr 32)), none, none, none] h Q := by
  unfold gV
  refine x_aload_n (pc := 0) (show decode mX6_markMet.2.1 0 = .ok (.aload_n 0, 1) by decide +kernel) rfl rfl ?_
  refine x_callV (pc := 1) (As := []) (rest := []) (lk6_65 rfl) im_X6_wholeSet sl_X6_wholeSet rfl rfl rfl (Nat.le_of_ble_eq_true rfl) (Nat.le_of_ble_eq_true rfl) (show decode mX6_markMet.2.1 1 = .ok (.invokevirtual 65, 3) by decide +kernel) hd hR (fun r9 h1 hq => ?_)
  obtain ⟨r2, rfl, hR⟩ := hq
  show xG _ _ _ 4 _ [.inl r2] _ _
  refine x_istore_n (pc := 4) (ls' := [some (.inr (.inr 32)), some (.inl r2), none, none]) (show decode mX6_markMet.2.1 4 = .ok (.istore_n 1, 1) by decide +kernel) rfl (by decide) rfl ?_
  refine x_iconst (pc := 5) (n := 1) (show decode mX6_markMet.2.1 5 = .ok (.iconst 1, 1) by decide +kernel) ?_
  refine x_istore_n (pc := 6) (ls' := [some (.inr (.inr 32)), some (.inl r2), some (.inl 1), none]) (show decode mX6_markMet.2.1 6 = .ok (.istore_n 2, 1) by decide +kernel) rfl (by decide) rfl ?_
  exact hR
set_option maxRecDepth 4000 in
theorem sg_X6_markMet_7 {d : Nat} {x1 x2 : Int} {h : xH} {Q : xH → Prop}
    (hR : (inI x2 ∧ inI x1) ∧ (x1 < x2 → gV wdC d mX6_markMet 34 [some (.inr (.inr 32)), some (.inl x1), some (.inl 0), none] (xu h 36 0 1) Q) ∧ (x2 ≤ x1 → (0 ≤ x2 ∧ x2 < 4096) ∧ gV wdC d mX6_markMet 7 [some (.inr (.inr 32)), some (.inl x1), some (.inl (x2 + 1)), none] (xu h 36 x2 0) Q)) :
    gV wdC d mX6_markMet 7 [some (.inr (.inr 32)), some (.inl x1), some (.inl x2), none] h Q := by
  unfold gV
  refine x_iload_n (pc := 7) (show decode mX6_markMet.2.1 7 = .ok (.iload_n 2, 1) by decide +kernel) rfl rfl ?_
  refine x_iload_n (pc := 8) (show decode mX6_markMet.2.1 8 = .ok (.iload_n 1, 1) by decide +kernel) rfl rfl ?_
  obtain ⟨hg, hR⟩ := hR
  refine x_icmp_gt (pc := 9) (tgt := 25) (show decode mX6_markMet.2.1 9 = .ok (.if_icmp .gt 16, 3) by decide +kernel) (by decide) ⟨hg.1, hg.2⟩ (fun hc => ?_) (fun hc => ?_)
  · replace hR := hR.1 hc
    refine x_aload_n (pc := 25) (show decode mX6_markMet.2.1 25 = .ok (.aload_n 0, 1) by decide +kernel) rfl rfl ?_
    refine x_getR (pc := 26) f6_29 rfl rfl (show decode mX6_markMet.2.1 26 = .ok (.getfield 29, 3) by decide +kernel) ?_
    refine x_iconst (pc := 29) (n := 0) (show decode mX6_markMet.2.1 29 = .ok (.iconst 0, 1) by decide +kernel) ?_
    refine x_iconst (pc := 30) (n := 1) (show decode mX6_markMet.2.1 30 = .ok (.iconst 1, 1) by decide +kernel) ?_
    refine x_zast (pc := 31) rfl (by decide) (by decide) (by decide) (show decode mX6_markMet.2.1 31 = .ok (.bastore, 1) by decide +kernel) ?_
    refine x_iconst (pc := 32) (n := 0) (show decode mX6_markMet.2.1 32 = .ok (.iconst 0, 1) by decide +kernel) ?_
    refine x_istore_n (pc := 33) (ls' := [some (.inr (.inr 32)), some (.inl x1), some (.inl 0), none]) (show decode mX6_markMet.2.1 33 = .ok (.istore_n 2, 1) by decide +kernel) rfl (by decide) rfl ?_
    exact hR
  · replace hR := hR.2 hc
    refine x_aload_n (pc := 12) (show decode mX6_markMet.2.1 12 = .ok (.aload_n 0, 1) by decide +kernel) rfl rfl ?_
    refine x_getR (pc := 13) f6_29 rfl rfl (show decode mX6_markMet.2.1 13 = .ok (.getfield 29, 3) by decide +kernel) ?_
    refine x_iload_n (pc := 16) (show decode mX6_markMet.2.1 16 = .ok (.iload_n 2, 1) by decide +kernel) rfl rfl ?_
    refine x_iconst (pc := 17) (n := 0) (show decode mX6_markMet.2.1 17 = .ok (.iconst 0, 1) by decide +kernel) ?_
    obtain ⟨hg, hR⟩ := hR
    refine x_zast (pc := 18) rfl (by decide) hg (by decide) (show decode mX6_markMet.2.1 18 = .ok (.bastore, 1) by decide +kernel) ?_
    refine x_iinc (pc := 19) (ls' := [some (.inr (.inr 32)), some (.inl x1), some (.inl (x2 + 1)), none]) (show decode mX6_markMet.2.1 19 = .ok (.iinc 2 1, 3) by decide +kernel) (by decide) rfl rfl ?_
    refine x_goto (pc := 22) (tgt := 7) (show decode mX6_markMet.2.1 22 = .ok (.goto (-15), 3) by decide +kernel) (by decide) ?_
    exact hR
set_option maxRecDepth 4000 in
theorem sg_X6_markMet_34 {d : Nat} {x1 x2 : Int} {h : xH} {Q : xH → Prop}
    (hR : (inI x2 ∧ inI x1) ∧ (x1 < x2 → Q h) ∧ (x2 ≤ x1 → (0 ≤ x2 ∧ x2 < 4096) ∧ (inI (h 36 x2)) ∧ (¬ (h 36 x2) = 0 → gV wdC d mX6_markMet 53 [some (.inr (.inr 32)), some (.inl x1), some (.inl x2), some (.inl 0)] h Q) ∧ ((h 36 x2) = 0 → gV wdC d mX6_markMet 34 [some (.inr (.inr 32)), some (.inl x1), some (.inl (x2 + 1)), none] h Q))) :
    gV wdC d mX6_markMet 34 [some (.inr (.inr 32)), some (.inl x1), some (.inl x2), none] h Q := by
  unfold gV
  refine x_iload_n (pc := 34) (show decode mX6_markMet.2.1 34 = .ok (.iload_n 2, 1) by decide +kernel) rfl rfl ?_
  refine x_iload_n (pc := 35) (show decode mX6_markMet.2.1 35 = .ok (.iload_n 1, 1) by decide +kernel) rfl rfl ?_
  obtain ⟨hg, hR⟩ := hR
  refine x_icmp_gt (pc := 36) (tgt := 93) (show decode mX6_markMet.2.1 36 = .ok (.if_icmp .gt 57, 3) by decide +kernel) (by decide) ⟨hg.1, hg.2⟩ (fun hc => ?_) (fun hc => ?_)
  · replace hR := hR.1 hc
    exact x_vret (pc := 93) rfl (show decode mX6_markMet.2.1 93 = .ok (.return_, 1) by decide +kernel) ⟨rfl, hR⟩
  · replace hR := hR.2 hc
    refine x_aload_n (pc := 39) (show decode mX6_markMet.2.1 39 = .ok (.aload_n 0, 1) by decide +kernel) rfl rfl ?_
    refine x_getR (pc := 40) f6_29 rfl rfl (show decode mX6_markMet.2.1 40 = .ok (.getfield 29, 3) by decide +kernel) ?_
    refine x_iload_n (pc := 43) (show decode mX6_markMet.2.1 43 = .ok (.iload_n 2, 1) by decide +kernel) rfl rfl ?_
    obtain ⟨hg, hR⟩ := hR
    refine x_zald (pc := 44) rfl (by decide) hg (show decode mX6_markMet.2.1 44 = .ok (.baload, 1) by decide +kernel) ?_
    obtain ⟨hg, hR⟩ := hR
    refine x_if_ne (pc := 45) (tgt := 51) (show decode mX6_markMet.2.1 45 = .ok (.ifCond .ne 6, 3) by decide +kernel) (by decide) hg (fun hc => ?_) (fun hc => ?_)
    · replace hR := hR.1 hc
      refine x_iconst (pc := 51) (n := 0) (show decode mX6_markMet.2.1 51 = .ok (.iconst 0, 1) by decide +kernel) ?_
      refine x_istore_n (pc := 52) (ls' := [some (.inr (.inr 32)), some (.inl x1), some (.inl x2), some (.inl 0)]) (show decode mX6_markMet.2.1 52 = .ok (.istore_n 3, 1) by decide +kernel) rfl (by decide) rfl ?_
      exact hR
    · replace hR := hR.2 hc
      refine x_goto (pc := 48) (tgt := 87) (show decode mX6_markMet.2.1 48 = .ok (.goto 39, 3) by decide +kernel) (by decide) ?_
      refine x_iinc (pc := 87) (ls' := [some (.inr (.inr 32)), some (.inl x1), some (.inl (x2 + 1)), none]) (show decode mX6_markMet.2.1 87 = .ok (.iinc 2 1, 3) by decide +kernel) (by decide) rfl rfl ?_
      refine x_goto (pc := 90) (tgt := 34) (show decode mX6_markMet.2.1 90 = .ok (.goto (-56), 3) by decide +kernel) (by decide) ?_
      exact hR
set_option maxRecDepth 4000 in
theorem sg_X6_markMet_53 {d : Nat} {x1 x2 x3 : Int} {h : xH} {Q : xH → Prop} (hd : 1 ≤ d)
    (hR : (inI x3 ∧ inI (h 32 0)) ∧ ((h 32 0) ≤ x3 → gV wdC d mX6_markMet 34 [some (.inr (.inr 32)), some (.inl x1), some (.inl (x2 + 1)), none] h Q) ∧ (x3 < (h 32 0) → cB wdC (d - 1) mX6_comesNext [.inr (.inr 32), .inl x2, .inl x3] h (fun h1 => (0 ≤ x3 ∧ x3 ≤ 31) ∧ (0 ≤ (xorI x2 (1 * 2 ^ (Int.toNat x3))) ∧ (xorI x2 (1 * 2 ^ (Int.toNat x3))) < 4096) ∧ gV wdC d mX6_markMet 53 [some (.inr (.inr 32)), some (.inl x1), some (.inl x2), some (.inl (x3 + 1))] (xu h1 36 (xorI x2 (1 * 2 ^ (Int.toNat x3))) 1) Q) (fun h1 => gV wdC d mX6_markMet 53 [some (.inr (.inr 32)), some (.inl x1), some (.inl x2), some (.inl (x3 + 1))] h1 Q))) :
    gV wdC d mX6_markMet 53 [some (.inr (.inr 32)), some (.inl x1), some (.inl x2), some (.inl x3)] h Q := by
  unfold gV
  refine x_iload_n (pc := 53) (show decode mX6_markMet.2.1 53 = .ok (.iload_n 3, 1) by decide +kernel) rfl rfl ?_
  refine x_aload_n (pc := 54) (show decode mX6_markMet.2.1 54 = .ok (.aload_n 0, 1) by decide +kernel) rfl rfl ?_
  refine x_getI (pc := 55) (ki := 0) f6_9 rfl rfl (by decide) rfl (show decode mX6_markMet.2.1 55 = .ok (.getfield 9, 3) by decide +kernel) ?_
  obtain ⟨hg, hR⟩ := hR
  refine x_icmp_ge (pc := 58) (tgt := 87) (show decode mX6_markMet.2.1 58 = .ok (.if_icmp .ge 29, 3) by decide +kernel) (by decide) ⟨hg.1, hg.2⟩ (fun hc => ?_) (fun hc => ?_)
  · replace hR := hR.1 hc
    refine x_iinc (pc := 87) (ls' := [some (.inr (.inr 32)), some (.inl x1), some (.inl (x2 + 1)), some (.inl x3)]) (show decode mX6_markMet.2.1 87 = .ok (.iinc 2 1, 3) by decide +kernel) (by decide) rfl rfl ?_
    refine x_goto (pc := 90) (tgt := 34) (show decode mX6_markMet.2.1 90 = .ok (.goto (-56), 3) by decide +kernel) (by decide) ?_
    exact x_weak (xle_get (by repeat' constructor)) hR
  · replace hR := hR.2 hc
    refine x_aload_n (pc := 61) (show decode mX6_markMet.2.1 61 = .ok (.aload_n 0, 1) by decide +kernel) rfl rfl ?_
    refine x_iload_n (pc := 62) (show decode mX6_markMet.2.1 62 = .ok (.iload_n 2, 1) by decide +kernel) rfl rfl ?_
    refine x_iload_n (pc := 63) (show decode mX6_markMet.2.1 63 = .ok (.iload_n 3, 1) by decide +kernel) rfl rfl ?_
    refine x_callV (pc := 64) (As := [.inl x2, .inl x3]) (rest := []) (lk6_69 rfl) im_X6_comesNext sl_X6_comesNext rfl rfl rfl (Nat.le_of_ble_eq_true rfl) (Nat.le_of_ble_eq_true rfl) (show decode mX6_markMet.2.1 64 = .ok (.invokevirtual 69, 3) by decide +kernel) hd hR (fun r9 h1 hq => ?_)
    obtain ⟨r8, rfl, hq⟩ := hq
    rcases hq with ⟨rfl, hR⟩ | ⟨rfl, hR⟩
    · show xG _ _ _ 67 _ [.inl 1] _ _
      refine x_if_eq (pc := 67) (tgt := 81) (show decode mX6_markMet.2.1 67 = .ok (.ifCond .eq 14, 3) by decide +kernel) (by decide) (by unfold inI; decide) (fun hc => absurd hc (by decide)) (fun _ => ?_)
      refine x_aload_n (pc := 70) (show decode mX6_markMet.2.1 70 = .ok (.aload_n 0, 1) by decide +kernel) rfl rfl ?_
      refine x_getR (pc := 71) f6_29 rfl rfl (show decode mX6_markMet.2.1 71 = .ok (.getfield 29, 3) by decide +kernel) ?_
      refine x_iload_n (pc := 74) (show decode mX6_markMet.2.1 74 = .ok (.iload_n 2, 1) by decide +kernel) rfl rfl ?_
      refine x_iconst (pc := 75) (n := 1) (show decode mX6_markMet.2.1 75 = .ok (.iconst 1, 1) by decide +kernel) ?_
      refine x_iload_n (pc := 76) (show decode mX6_markMet.2.1 76 = .ok (.iload_n 3, 1) by decide +kernel) rfl rfl ?_
      obtain ⟨hg, hR⟩ := hR
      refine x_ishl (pc := 77) (show decode mX6_markMet.2.1 77 = .ok (.ishl, 1) by decide +kernel) hg ?_
      refine x_ior (pc := 78) (show decode mX6_markMet.2.1 78 = .ok (.ior, 1) by decide +kernel) ?_
      refine x_iconst (pc := 79) (n := 1) (show decode mX6_markMet.2.1 79 = .ok (.iconst 1, 1) by decide +kernel) ?_
      obtain ⟨hg, hR⟩ := hR
      refine x_zast (pc := 80) rfl (by decide) hg (by decide) (show decode mX6_markMet.2.1 80 = .ok (.bastore, 1) by decide +kernel) ?_
      refine x_iinc (pc := 81) (ls' := [some (.inr (.inr 32)), some (.inl x1), some (.inl x2), some (.inl (x3 + 1))]) (show decode mX6_markMet.2.1 81 = .ok (.iinc 3 1, 3) by decide +kernel) (by decide) rfl rfl ?_
      refine x_goto (pc := 84) (tgt := 53) (show decode mX6_markMet.2.1 84 = .ok (.goto (-31), 3) by decide +kernel) (by decide) ?_
      exact hR
    · show xG _ _ _ 67 _ [.inl 0] _ _
      refine x_if_eq (pc := 67) (tgt := 81) (show decode mX6_markMet.2.1 67 = .ok (.ifCond .eq 14, 3) by decide +kernel) (by decide) (by unfold inI; decide) (fun _ => ?_) (fun hc => absurd hc (by decide))
      refine x_iinc (pc := 81) (ls' := [some (.inr (.inr 32)), some (.inl x1), some (.inl x2), some (.inl (x3 + 1))]) (show decode mX6_markMet.2.1 81 = .ok (.iinc 3 1, 3) by decide +kernel) (by decide) rfl rfl ?_
      refine x_goto (pc := 84) (tgt := 53) (show decode mX6_markMet.2.1 84 = .ok (.goto (-31), 3) by decide +kernel) (by decide) ?_
      exact hR
set_option maxRecDepth 4000 in
theorem sg_X6_lawfulOrders_0 {d : Nat} {h : xH} {Q : Int → xH → Prop} (hd : 1 ≤ d)
    (hR : (inI (h 32 1)) ∧ (¬ (h 32 1) = 0 → cI wdC (d - 1) mX6_wholeSet [.inr (.inr 32)] h (fun r2 h1 => (0 ≤ r2 ∧ r2 < 4096) ∧ gL wdC d mX6_lawfulOrders 25 [some (.inr (.inr 32)), none, some (.inl (r2 - 1)), none, none, none] (xu h1 37 r2 1) Q)) ∧ ((h 32 1) = 0 → Q 0 h)) :
    gL wdC d mX6_lawfulOrders 0 [some (.inr (.inr 32)), none, none, none, none, none] h Q := by
  unfold gL
  refine x_aload_n (pc := 0) (show decode mX6_lawfulOrders.2.1 0 = .ok (.aload_n 0, 1) by decide +kernel) rfl rfl ?_
  refine x_getI (pc := 1) (ki := 1) f6_15 rfl rfl (by decide) rfl (show decode mX6_lawfulOrders.2.1 1 = .ok (.getfield 15, 3) by decide +kernel) ?_
  obtain ⟨hg, hR⟩ := hR
  refine x_if_ne (pc := 4) (tgt := 9) (show decode mX6_lawfulOrders.2.1 4 = .ok (.ifCond .ne 5, 3) by decide +kernel) (by decide) hg (fun hc => ?_) (fun hc => ?_)
  · replace hR := hR.1 hc
    refine x_aload_n (pc := 9) (show decode mX6_lawfulOrders.2.1 9 = .ok (.aload_n 0, 1) by decide +kernel) rfl rfl ?_
    refine x_callV (pc := 10) (As := []) (rest := []) (lk6_65 rfl) im_X6_wholeSet sl_X6_wholeSet rfl rfl rfl (Nat.le_of_ble_eq_true rfl) (Nat.le_of_ble_eq_true rfl) (show decode mX6_lawfulOrders.2.1 10 = .ok (.invokevirtual 65, 3) by decide +kernel) hd hR (fun r9 h1 hq => ?_)
    obtain ⟨r2, rfl, hR⟩ := hq
    show xG _ _ _ 13 _ [.inl r2] _ _
    refine x_istore_n (pc := 13) (ls' := [some (.inr (.inr 32)), some (.inl r2), none, none, none, none]) (show decode mX6_lawfulOrders.2.1 13 = .ok (.istore_n 1, 1) by decide +kernel) rfl (by decide) rfl ?_
    refine x_aload_n (pc := 14) (show decode mX6_lawfulOrders.2.1 14 = .ok (.aload_n 0, 1) by decide +kernel) rfl rfl ?_
    refine x_getR (pc := 15) f6_33 rfl rfl (show decode mX6_lawfulOrders.2.1 15 = .ok (.getfield 33, 3) by decide +kernel) ?_
    refine x_iload_n (pc := 18) (show decode mX6_lawfulOrders.2.1 18 = .ok (.iload_n 1, 1) by decide +kernel) rfl rfl ?_
    refine x_lconst (pc := 19) (v := 1) (show decode mX6_lawfulOrders.2.1 19 = .ok (.lconst 1, 1) by decide +kernel) rfl ?_
    obtain ⟨hg, hR⟩ := hR
    refine x_last (pc := 20) rfl (by decide) hg (show decode mX6_lawfulOrders.2.1 20 = .ok (.lastore, 1) by decide +kernel) ?_
    refine x_iload_n (pc := 21) (show decode mX6_lawfulOrders.2.1 21 = .ok (.iload_n 1, 1) by decide +kernel) rfl rfl ?_
    refine x_iconst (pc := 22) (n := 1) (show decode mX6_lawfulOrders.2.1 22 = .ok (.iconst 1, 1) by decide +kernel) ?_
    refine x_isub (pc := 23) (show decode mX6_lawfulOrders.2.1 23 = .ok (.isub, 1) by decide +kernel) ?_
    refine x_istore_n (pc := 24) (ls' := [some (.inr (.inr 32)), some (.inl r2), some (.inl (r2 - 1)), none, none, none]) (show decode mX6_lawfulOrders.2.1 24 = .ok (.istore_n 2, 1) by decide +kernel) rfl (by decide) rfl ?_
    exact x_weak (xle_get (by repeat' constructor)) hR
  · replace hR := hR.2 hc
    refine x_lconst (pc := 7) (v := 0) (show decode mX6_lawfulOrders.2.1 7 = .ok (.lconst 0, 1) by decide +kernel) rfl ?_
    exact x_lret (pc := 8) rfl (show decode mX6_lawfulOrders.2.1 8 = .ok (.lreturn, 1) by decide +kernel) ⟨_, rfl, hR⟩
set_option maxRecDepth 4000 in
theorem sg_X6_lawfulOrders_25 {d : Nat} {x2 : Int} {h : xH} {Q : Int → xH → Prop}
    (hR : (inI x2) ∧ (x2 < 0 → Q (h 37 0) h) ∧ (0 ≤ x2 → (0 ≤ x2 ∧ x2 < 4096) ∧ (inI (h 36 x2)) ∧ (¬ (h 36 x2) = 0 → gL wdC d mX6_lawfulOrders 46 [some (.inr (.inr 32)), none, some (.inl x2), some (.inr (.inl 0)), none, some (.inl 0)] h Q) ∧ ((h 36 x2) = 0 → gL wdC d mX6_lawfulOrders 25 [some (.inr (.inr 32)), none, some (.inl (x2 + (-1))), none, none, none] h Q))) :
    gL wdC d mX6_lawfulOrders 25 [some (.inr (.inr 32)), none, some (.inl x2), none, none, none] h Q := by
  unfold gL
  refine x_iload_n (pc := 25) (show decode mX6_lawfulOrders.2.1 25 = .ok (.iload_n 2, 1) by decide +kernel) rfl rfl ?_
  obtain ⟨hg, hR⟩ := hR
  refine x_if_lt (pc := 26) (tgt := 98) (show decode mX6_lawfulOrders.2.1 26 = .ok (.ifCond .lt 72, 3) by decide +kernel) (by decide) hg (fun hc => ?_) (fun hc => ?_)
  · replace hR := hR.1 hc
    refine x_aload_n (pc := 98) (show decode mX6_lawfulOrders.2.1 98 = .ok (.aload_n 0, 1) by decide +kernel) rfl rfl ?_
    refine x_getR (pc := 99) f6_33 rfl rfl (show decode mX6_lawfulOrders.2.1 99 = .ok (.getfield 33, 3) by decide +kernel) ?_
    refine x_iconst (pc := 102) (n := 0) (show decode mX6_lawfulOrders.2.1 102 = .ok (.iconst 0, 1) by decide +kernel) ?_
    refine x_lald (pc := 103) rfl (by decide) (by decide) (show decode mX6_lawfulOrders.2.1 103 = .ok (.laload, 1) by decide +kernel) ?_
    exact x_lret (pc := 104) rfl (show decode mX6_lawfulOrders.2.1 104 = .ok (.lreturn, 1) by decide +kernel) ⟨_, rfl, hR⟩
  · replace hR := hR.2 hc
    refine x_aload_n (pc := 29) (show decode mX6_lawfulOrders.2.1 29 = .ok (.aload_n 0, 1) by decide +kernel) rfl rfl ?_
    refine x_getR (pc := 30) f6_29 rfl rfl (show decode mX6_lawfulOrders.2.1 30 = .ok (.getfield 29, 3) by decide +kernel) ?_
    refine x_iload_n (pc := 33) (show decode mX6_lawfulOrders.2.1 33 = .ok (.iload_n 2, 1) by decide +kernel) rfl rfl ?_
    obtain ⟨hg, hR⟩ := hR
    refine x_zald (pc := 34) rfl (by decide) hg (show decode mX6_lawfulOrders.2.1 34 = .ok (.baload, 1) by decide +kernel) ?_
    obtain ⟨hg, hR⟩ := hR
    refine x_if_ne (pc := 35) (tgt := 41) (show decode mX6_lawfulOrders.2.1 35 = .ok (.ifCond .ne 6, 3) by decide +kernel) (by decide) hg (fun hc => ?_) (fun hc => ?_)
    · replace hR := hR.1 hc
      refine x_lconst (pc := 41) (v := 0) (show decode mX6_lawfulOrders.2.1 41 = .ok (.lconst 0, 1) by decide +kernel) rfl ?_
      refine x_lstore_n (pc := 42) (ls' := [some (.inr (.inr 32)), none, some (.inl x2), some (.inr (.inl 0)), none, none]) (show decode mX6_lawfulOrders.2.1 42 = .ok (.lstore_n 3, 1) by decide +kernel) rfl (by decide) rfl ?_
      refine x_iconst (pc := 43) (n := 0) (show decode mX6_lawfulOrders.2.1 43 = .ok (.iconst 0, 1) by decide +kernel) ?_
      refine x_istore (pc := 44) (ls' := [some (.inr (.inr 32)), none, some (.inl x2), some (.inr (.inl 0)), none, some (.inl 0)]) (show decode mX6_lawfulOrders.2.1 44 = .ok (.istore 5, 2) by decide +kernel) (by decide) rfl ?_
      exact hR
    · replace hR := hR.2 hc
      refine x_goto (pc := 38) (tgt := 92) (show decode mX6_lawfulOrders.2.1 38 = .ok (.goto 54, 3) by decide +kernel) (by decide) ?_
      refine x_iinc (pc := 92) (ls' := [some (.inr (.inr 32)), none, some (.inl (x2 + (-1))), none, none, none]) (show decode mX6_lawfulOrders.2.1 92 = .ok (.iinc 2 (-1), 3) by decide +kernel) (by decide) rfl rfl ?_
      refine x_goto (pc := 95) (tgt := 25) (show decode mX6_lawfulOrders.2.1 95 = .ok (.goto (-70), 3) by decide +kernel) (by decide) ?_
      exact hR
set_option maxRecDepth 4000 in
theorem sg_X6_lawfulOrders_46 {d : Nat} {x2 x3 x5 : Int} {h : xH} {Q : Int → xH → Prop} (hd : 1 ≤ d)
    (hR : (inI x5 ∧ inI (h 32 0)) ∧ ((h 32 0) ≤ x5 → (0 ≤ x2 ∧ x2 < 4096) ∧ gL wdC d mX6_lawfulOrders 25 [some (.inr (.inr 32)), none, some (.inl (x2 + (-1))), none, none, none] (xu h 37 x2 x3) Q) ∧ (x5 < (h 32 0) → cB wdC (d - 1) mX6_comesNext [.inr (.inr 32), .inl x2, .inl x5] h (fun h1 => (0 ≤ x5 ∧ x5 ≤ 31) ∧ (0 ≤ (xorI x2 (1 * 2 ^ (Int.toNat x5))) ∧ (xorI x2 (1 * 2 ^ (Int.toNat x5))) < 4096) ∧ gL wdC d mX6_lawfulOrders 46 [some (.inr (.inr 32)), none, some (.inl x2), some (.inr (.inl (x3 + (h1 37 (xorI x2 (1 * 2 ^ (Int.toNat x5))))))), none, some (.inl (x5 + 1))] h1 Q) (fun h1 => gL wdC d mX6_lawfulOrders 46 [some (.inr (.inr 32)), none, some (.inl x2), some (.inr (.inl x3)), none, some (.inl (x5 + 1))] h1 Q))) :
    gL wdC d mX6_lawfulOrders 46 [some (.inr (.inr 32)), none, some (.inl x2), some (.inr (.inl x3)), none, some (.inl x5)] h Q := by
  unfold gL
  refine x_iload (pc := 46) (show decode mX6_lawfulOrders.2.1 46 = .ok (.iload 5, 2) by decide +kernel) rfl ?_
  refine x_aload_n (pc := 48) (show decode mX6_lawfulOrders.2.1 48 = .ok (.aload_n 0, 1) by decide +kernel) rfl rfl ?_
  refine x_getI (pc := 49) (ki := 0) f6_9 rfl rfl (by decide) rfl (show decode mX6_lawfulOrders.2.1 49 = .ok (.getfield 9, 3) by decide +kernel) ?_
  obtain ⟨hg, hR⟩ := hR
  refine x_icmp_ge (pc := 52) (tgt := 85) (show decode mX6_lawfulOrders.2.1 52 = .ok (.if_icmp .ge 33, 3) by decide +kernel) (by decide) ⟨hg.1, hg.2⟩ (fun hc => ?_) (fun hc => ?_)
  · replace hR := hR.1 hc
    refine x_aload_n (pc := 85) (show decode mX6_lawfulOrders.2.1 85 = .ok (.aload_n 0, 1) by decide +kernel) rfl rfl ?_
    refine x_getR (pc := 86) f6_33 rfl rfl (show decode mX6_lawfulOrders.2.1 86 = .ok (.getfield 33, 3) by decide +kernel) ?_
    refine x_iload_n (pc := 89) (show decode mX6_lawfulOrders.2.1 89 = .ok (.iload_n 2, 1) by decide +kernel) rfl rfl ?_
    refine x_lload_n (pc := 90) (show decode mX6_lawfulOrders.2.1 90 = .ok (.lload_n 3, 1) by decide +kernel) rfl rfl ?_
    obtain ⟨hg, hR⟩ := hR
    refine x_last (pc := 91) rfl (by decide) hg (show decode mX6_lawfulOrders.2.1 91 = .ok (.lastore, 1) by decide +kernel) ?_
    refine x_iinc (pc := 92) (ls' := [some (.inr (.inr 32)), none, some (.inl (x2 + (-1))), some (.inr (.inl x3)), none, some (.inl x5)]) (show decode mX6_lawfulOrders.2.1 92 = .ok (.iinc 2 (-1), 3) by decide +kernel) (by decide) rfl rfl ?_
    refine x_goto (pc := 95) (tgt := 25) (show decode mX6_lawfulOrders.2.1 95 = .ok (.goto (-70), 3) by decide +kernel) (by decide) ?_
    exact x_weak (xle_get (by repeat' constructor)) hR
  · replace hR := hR.2 hc
    refine x_aload_n (pc := 55) (show decode mX6_lawfulOrders.2.1 55 = .ok (.aload_n 0, 1) by decide +kernel) rfl rfl ?_
    refine x_iload_n (pc := 56) (show decode mX6_lawfulOrders.2.1 56 = .ok (.iload_n 2, 1) by decide +kernel) rfl rfl ?_
    refine x_iload (pc := 57) (show decode mX6_lawfulOrders.2.1 57 = .ok (.iload 5, 2) by decide +kernel) rfl ?_
    refine x_callV (pc := 59) (As := [.inl x2, .inl x5]) (rest := []) (lk6_69 rfl) im_X6_comesNext sl_X6_comesNext rfl rfl rfl (Nat.le_of_ble_eq_true rfl) (Nat.le_of_ble_eq_true rfl) (show decode mX6_lawfulOrders.2.1 59 = .ok (.invokevirtual 69, 3) by decide +kernel) hd hR (fun r9 h1 hq => ?_)
    obtain ⟨r8, rfl, hq⟩ := hq
    rcases hq with ⟨rfl, hR⟩ | ⟨rfl, hR⟩
    · show xG _ _ _ 62 _ [.inl 1] _ _
      refine x_if_eq (pc := 62) (tgt := 79) (show decode mX6_lawfulOrders.2.1 62 = .ok (.ifCond .eq 17, 3) by decide +kernel) (by decide) (by unfold inI; decide) (fun hc => absurd hc (by decide)) (fun _ => ?_)
      refine x_lload_n (pc := 65) (show decode mX6_lawfulOrders.2.1 65 = .ok (.lload_n 3, 1) by decide +kernel) rfl rfl ?_
      refine x_aload_n (pc := 66) (show decode mX6_lawfulOrders.2.1 66 = .ok (.aload_n 0, 1) by decide +kernel) rfl rfl ?_
      refine x_getR (pc := 67) f6_33 rfl rfl (show decode mX6_lawfulOrders.2.1 67 = .ok (.getfield 33, 3) by decide +kernel) ?_
      refine x_iload_n (pc := 70) (show decode mX6_lawfulOrders.2.1 70 = .ok (.iload_n 2, 1) by decide +kernel) rfl rfl ?_
      refine x_iconst (pc := 71) (n := 1) (show decode mX6_lawfulOrders.2.1 71 = .ok (.iconst 1, 1) by decide +kernel) ?_
      refine x_iload (pc := 72) (show decode mX6_lawfulOrders.2.1 72 = .ok (.iload 5, 2) by decide +kernel) rfl ?_
      obtain ⟨hg, hR⟩ := hR
      refine x_ishl (pc := 74) (show decode mX6_lawfulOrders.2.1 74 = .ok (.ishl, 1) by decide +kernel) hg ?_
      refine x_ior (pc := 75) (show decode mX6_lawfulOrders.2.1 75 = .ok (.ior, 1) by decide +kernel) ?_
      obtain ⟨hg, hR⟩ := hR
      refine x_lald (pc := 76) rfl (by decide) hg (show decode mX6_lawfulOrders.2.1 76 = .ok (.laload, 1) by decide +kernel) ?_
      refine x_ladd (pc := 77) (show decode mX6_lawfulOrders.2.1 77 = .ok (.ladd, 1) by decide +kernel) ?_
      refine x_lstore_n (pc := 78) (ls' := [some (.inr (.inr 32)), none, some (.inl x2), some (.inr (.inl (x3 + (h1 37 (xorI x2 (1 * 2 ^ (Int.toNat x5))))))), none, some (.inl x5)]) (show decode mX6_lawfulOrders.2.1 78 = .ok (.lstore_n 3, 1) by decide +kernel) rfl (by decide) rfl ?_
      refine x_iinc (pc := 79) (ls' := [some (.inr (.inr 32)), none, some (.inl x2), some (.inr (.inl (x3 + (h1 37 (xorI x2 (1 * 2 ^ (Int.toNat x5))))))), none, some (.inl (x5 + 1))]) (show decode mX6_lawfulOrders.2.1 79 = .ok (.iinc 5 1, 3) by decide +kernel) (by decide) rfl rfl ?_
      refine x_goto (pc := 82) (tgt := 46) (show decode mX6_lawfulOrders.2.1 82 = .ok (.goto (-36), 3) by decide +kernel) (by decide) ?_
      exact hR
    · show xG _ _ _ 62 _ [.inl 0] _ _
      refine x_if_eq (pc := 62) (tgt := 79) (show decode mX6_lawfulOrders.2.1 62 = .ok (.ifCond .eq 17, 3) by decide +kernel) (by decide) (by unfold inI; decide) (fun _ => ?_) (fun hc => absurd hc (by decide))
      refine x_iinc (pc := 79) (ls' := [some (.inr (.inr 32)), none, some (.inl x2), some (.inr (.inl x3)), none, some (.inl (x5 + 1))]) (show decode mX6_lawfulOrders.2.1 79 = .ok (.iinc 5 1, 3) by decide +kernel) (by decide) rfl rfl ?_
      refine x_goto (pc := 82) (tgt := 46) (show decode mX6_lawfulOrders.2.1 82 = .ok (.goto (-36), 3) by decide +kernel) (by decide) ?_
      exact hR
set_option maxRecDepth 4000 in
theorem sg_X6_pinOfOrder_0 {d : Nat} {x1 x3 : Int} {h : xH} {Q : Int → xH → Prop}
    (hR : gI wdC d mX6_pinOfOrder 9 [some (.inr (.inr 32)), some (.inr (.inl x1)), none, some (.inl x3), some (.inl 0), some (.inl 0), some (.inl 0), none, none, none] h Q) :
    gI wdC d mX6_pinOfOrder 0 [some (.inr (.inr 32)), some (.inr (.inl x1)), none, some (.inl x3), none, none, none, none, none, none] h Q := by
  unfold gI
  refine x_iconst (pc := 0) (n := 0) (show decode mX6_pinOfOrder.2.1 0 = .ok (.iconst 0, 1) by decide +kernel) ?_
  refine x_istore (pc := 1) (ls' := [some (.inr (.inr 32)), some (.inr (.inl x1)), none, some (.inl x3), some (.inl 0), none, none, none, none, none]) (show decode mX6_pinOfOrder.2.1 1 = .ok (.istore 4, 2) by decide +kernel) (by decide) rfl ?_
  refine x_iconst (pc := 3) (n := 0) (show decode mX6_pinOfOrder.2.1 3 = .ok (.iconst 0, 1) by decide +kernel) ?_
  refine x_istore (pc := 4) (ls' := [some (.inr (.inr 32)), some (.inr (.inl x1)), none, some (.inl x3), some (.inl 0), some (.inl 0), none, none, none, none]) (show decode mX6_pinOfOrder.2.1 4 = .ok (.istore 5, 2) by decide +kernel) (by decide) rfl ?_
  refine x_iconst (pc := 6) (n := 0) (show decode mX6_pinOfOrder.2.1 6 = .ok (.iconst 0, 1) by decide +kernel) ?_
  refine x_istore (pc := 7) (ls' := [some (.inr (.inr 32)), some (.inr (.inl x1)), none, some (.inl x3), some (.inl 0), some (.inl 0), some (.inl 0), none, none, none]) (show decode mX6_pinOfOrder.2.1 7 = .ok (.istore 6, 2) by decide +kernel) (by decide) rfl ?_
  exact hR
set_option maxRecDepth 4000 in
theorem sg_X6_pinOfOrder_9 {d : Nat} {x1 x3 x4 x5 x6 : Int} {h : xH} {Q : Int → xH → Prop}
    (hR : (inI x6 ∧ inI x3) ∧ (x3 < x6 → (0 ≤ x5 ∧ x5 < 12) ∧ Q (h 33 x5) h) ∧ (x6 ≤ x3 → gI wdC d mX6_pinOfOrder 18 [some (.inr (.inr 32)), some (.inr (.inl x1)), none, some (.inl x3), some (.inl x4), some (.inl x5), some (.inl x6), some (.inl 0), none, none] h Q)) :
    gI wdC d mX6_pinOfOrder 9 [some (.inr (.inr 32)), some (.inr (.inl x1)), none, some (.inl x3), some (.inl x4), some (.inl x5), some (.inl x6), none, none, none] h Q := by
  unfold gI
  refine x_iload (pc := 9) (show decode mX6_pinOfOrder.2.1 9 = .ok (.iload 6, 2) by decide +kernel) rfl ?_
  refine x_iload_n (pc := 11) (show decode mX6_pinOfOrder.2.1 11 = .ok (.iload_n 3, 1) by decide +kernel) rfl rfl ?_
  obtain ⟨hg, hR⟩ := hR
  refine x_icmp_gt (pc := 12) (tgt := 95) (show decode mX6_pinOfOrder.2.1 12 = .ok (.if_icmp .gt 83, 3) by decide +kernel) (by decide) ⟨hg.1, hg.2⟩ (fun hc => ?_) (fun hc => ?_)
  · replace hR := hR.1 hc
    refine x_aload_n (pc := 95) (show decode mX6_pinOfOrder.2.1 95 = .ok (.aload_n 0, 1) by decide +kernel) rfl rfl ?_
    refine x_getR (pc := 96) f6_19 rfl rfl (show decode mX6_pinOfOrder.2.1 96 = .ok (.getfield 19, 3) by decide +kernel) ?_
    refine x_iload (pc := 99) (show decode mX6_pinOfOrder.2.1 99 = .ok (.iload 5, 2) by decide +kernel) rfl ?_
    obtain ⟨hg, hR⟩ := hR
    refine x_iald (pc := 101) rfl (by decide) hg (show decode mX6_pinOfOrder.2.1 101 = .ok (.iaload, 1) by decide +kernel) ?_
    exact x_iret (pc := 102) rfl (show decode mX6_pinOfOrder.2.1 102 = .ok (.ireturn, 1) by decide +kernel) ⟨_, rfl, hR⟩
  · replace hR := hR.2 hc
    refine x_iconst (pc := 15) (n := 0) (show decode mX6_pinOfOrder.2.1 15 = .ok (.iconst 0, 1) by decide +kernel) ?_
    refine x_istore (pc := 16) (ls' := [some (.inr (.inr 32)), some (.inr (.inl x1)), none, some (.inl x3), some (.inl x4), some (.inl x5), some (.inl x6), some (.inl 0), none, none]) (show decode mX6_pinOfOrder.2.1 16 = .ok (.istore 7, 2) by decide +kernel) (by decide) rfl ?_
    exact hR
set_option maxRecDepth 4000 in
theorem sg_X6_pinOfOrder_18 {d : Nat} {x1 x3 x4 x5 x6 x7 : Int} {h : xH} {Q : Int → xH → Prop} (hd : 1 ≤ d)
    (hR : (inI x7 ∧ inI (h 32 0)) ∧ ((h 32 0) ≤ x7 → (0 ≤ x5 ∧ x5 ≤ 31) ∧ gI wdC d mX6_pinOfOrder 9 [some (.inr (.inr 32)), some (.inr (.inl x1)), none, some (.inl x3), some (.inl (xorI x4 (1 * 2 ^ (Int.toNat x5)))), some (.inl x5), some (.inl (x6 + 1)), none, none, none] h Q) ∧ (x7 < (h 32 0) → cB wdC (d - 1) mX6_comesNext [.inr (.inr 32), .inl x4, .inl x7] h (fun h1 => (0 ≤ x7 ∧ x7 ≤ 31) ∧ (0 ≤ (xorI x4 (1 * 2 ^ (Int.toNat x7))) ∧ (xorI x4 (1 * 2 ^ (Int.toNat x7))) < 4096) ∧ (inL x1 ∧ inL (h1 37 (xorI x4 (1 * 2 ^ (Int.toNat x7))))) ∧ ((h1 37 (xorI x4 (1 * 2 ^ (Int.toNat x7)))) ≤ x1 → gI wdC d mX6_pinOfOrder 18 [some (.inr (.inr 32)), some (.inr (.inl (x1 - (h1 37 (xorI x4 (1 * 2 ^ (Int.toNat x7))))))), none, some (.inl x3), some (.inl x4), some (.inl x7), some (.inl x6), some (.inl (x7 + 1)), none, none] h1 Q) ∧ (x1 < (h1 37 (xorI x4 (1 * 2 ^ (Int.toNat x7)))) → (0 ≤ x7 ∧ x7 ≤ 31) ∧ gI wdC d mX6_pinOfOrder 9 [some (.inr (.inr 32)), some (.inr (.inl x1)), none, some (.inl x3), some (.inl (xorI x4 (1 * 2 ^ (Int.toNat x7)))), some (.inl x7), some (.inl (x6 + 1)), none, none, none] h1 Q)) (fun h1 => gI wdC d mX6_pinOfOrder 18 [some (.inr (.inr 32)), some (.inr (.inl x1)), none, some (.inl x3), some (.inl x4), some (.inl x5), some (.inl x6), some (.inl (x7 + 1)), none, none] h1 Q))) :
    gI wdC d mX6_pinOfOrder 18 [some (.inr (.inr 32)), some (.inr (.inl x1)), none, some (.inl x3), some (.inl x4), some (.inl x5), some (.inl x6), some (.inl x7), none, none] h Q := by
  unfold gI
  refine x_iload (pc := 18) (show decode mX6_pinOfOrder.2.1 18 = .ok (.iload 7, 2) by decide +kernel) rfl ?_
  refine x_aload_n (pc := 20) (show decode mX6_pinOfOrder.2.1 20 = .ok (.aload_n 0, 1) by decide +kernel) rfl rfl ?_
  refine x_getI (pc := 21) (ki := 0) f6_9 rfl rfl (by decide) rfl (show decode mX6_pinOfOrder.2.1 21 = .ok (.getfield 9, 3) by decide +kernel) ?_
  obtain ⟨hg, hR⟩ := hR
  refine x_icmp_ge (pc := 24) (tgt := 80) (show decode mX6_pinOfOrder.2.1 24 = .ok (.if_icmp .ge 56, 3) by decide +kernel) (by decide) ⟨hg.1, hg.2⟩ (fun hc => ?_) (fun hc => ?_)
  · replace hR := hR.1 hc
    refine x_iload (pc := 80) (show decode mX6_pinOfOrder.2.1 80 = .ok (.iload 4, 2) by decide +kernel) rfl ?_
    refine x_iconst (pc := 82) (n := 1) (show decode mX6_pinOfOrder.2.1 82 = .ok (.iconst 1, 1) by decide +kernel) ?_
    refine x_iload (pc := 83) (show decode mX6_pinOfOrder.2.1 83 = .ok (.iload 5, 2) by decide +kernel) rfl ?_
    obtain ⟨hg, hR⟩ := hR
    refine x_ishl (pc := 85) (show decode mX6_pinOfOrder.2.1 85 = .ok (.ishl, 1) by decide +kernel) hg ?_
    refine x_ior (pc := 86) (show decode mX6_pinOfOrder.2.1 86 = .ok (.ior, 1) by decide +kernel) ?_
    refine x_istore (pc := 87) (ls' := [some (.inr (.inr 32)), some (.inr (.inl x1)), none, some (.inl x3), some (.inl (xorI x4 (1 * 2 ^ (Int.toNat x5)))), some (.inl x5), some (.inl x6), some (.inl x7), none, none]) (show decode mX6_pinOfOrder.2.1 87 = .ok (.istore 4, 2) by decide +kernel) (by decide) rfl ?_
    refine x_iinc (pc := 89) (ls' := [some (.inr (.inr 32)), some (.inr (.inl x1)), none, some (.inl x3), some (.inl (xorI x4 (1 * 2 ^ (Int.toNat x5)))), some (.inl x5), some (.inl (x6 + 1)), some (.inl x7), none, none]) (show decode mX6_pinOfOrder.2.1 89 = .ok (.iinc 6 1, 3) by decide +kernel) (by decide) rfl rfl ?_
    refine x_goto (pc := 92) (tgt := 9) (show decode mX6_pinOfOrder.2.1 92 = .ok (.goto (-83), 3) by decide +kernel) (by decide) ?_
    exact x_weak (xle_get (by repeat' constructor)) hR
  · replace hR := hR.2 hc
    refine x_aload_n (pc := 27) (show decode mX6_pinOfOrder.2.1 27 = .ok (.aload_n 0, 1) by decide +kernel) rfl rfl ?_
    refine x_iload (pc := 28) (show decode mX6_pinOfOrder.2.1 28 = .ok (.iload 4, 2) by decide +kernel) rfl ?_
    refine x_iload (pc := 30) (show decode mX6_pinOfOrder.2.1 30 = .ok (.iload 7, 2) by decide +kernel) rfl ?_
    refine x_callV (pc := 32) (As := [.inl x4, .inl x7]) (rest := []) (lk6_69 rfl) im_X6_comesNext sl_X6_comesNext rfl rfl rfl (Nat.le_of_ble_eq_true rfl) (Nat.le_of_ble_eq_true rfl) (show decode mX6_pinOfOrder.2.1 32 = .ok (.invokevirtual 69, 3) by decide +kernel) hd hR (fun r9 h1 hq => ?_)
    obtain ⟨r8, rfl, hq⟩ := hq
    rcases hq with ⟨rfl, hR⟩ | ⟨rfl, hR⟩
    · show xG _ _ _ 35 _ [.inl 1] _ _
      refine x_if_ne (pc := 35) (tgt := 41) (show decode mX6_pinOfOrder.2.1 35 = .ok (.ifCond .ne 6, 3) by decide +kernel) (by decide) (by unfold inI; decide) (fun _ => ?_) (fun hc => absurd hc (by decide))
      refine x_iload (pc := 41) (show decode mX6_pinOfOrder.2.1 41 = .ok (.iload 7, 2) by decide +kernel) rfl ?_
      refine x_istore (pc := 43) (ls' := [some (.inr (.inr 32)), some (.inr (.inl x1)), none, some (.inl x3), some (.inl x4), some (.inl x7), some (.inl x6), some (.inl x7), none, none]) (show decode mX6_pinOfOrder.2.1 43 = .ok (.istore 5, 2) by decide +kernel) (by decide) rfl ?_
      refine x_aload_n (pc := 45) (show decode mX6_pinOfOrder.2.1 45 = .ok (.aload_n 0, 1) by decide +kernel) rfl rfl ?_
      refine x_getR (pc := 46) f6_33 rfl rfl (show decode mX6_pinOfOrder.2.1 46 = .ok (.getfield 33, 3) by decide +kernel) ?_
      refine x_iload (pc := 49) (show decode mX6_pinOfOrder.2.1 49 = .ok (.iload 4, 2) by decide +kernel) rfl ?_
      refine x_iconst (pc := 51) (n := 1) (show decode mX6_pinOfOrder.2.1 51 = .ok (.iconst 1, 1) by decide +kernel) ?_
      refine x_iload (pc := 52) (show decode mX6_pinOfOrder.2.1 52 = .ok (.iload 7, 2) by decide +kernel) rfl ?_
      obtain ⟨hg, hR⟩ := hR
      refine x_ishl (pc := 54) (show decode mX6_pinOfOrder.2.1 54 = .ok (.ishl, 1) by decide +kernel) hg ?_
      refine x_ior (pc := 55) (show decode mX6_pinOfOrder.2.1 55 = .ok (.ior, 1) by decide +kernel) ?_
      obtain ⟨hg, hR⟩ := hR
      refine x_lald (pc := 56) rfl (by decide) hg (show decode mX6_pinOfOrder.2.1 56 = .ok (.laload, 1) by decide +kernel) ?_
      refine x_lstore (pc := 57) (ls' := [some (.inr (.inr 32)), some (.inr (.inl x1)), none, some (.inl x3), some (.inl x4), some (.inl x7), some (.inl x6), some (.inl x7), some (.inr (.inl (h1 37 (xorI x4 (1 * 2 ^ (Int.toNat x7)))))), none]) (show decode mX6_pinOfOrder.2.1 57 = .ok (.lstore 8, 2) by decide +kernel) (by decide) rfl ?_
      refine x_lload_n (pc := 59) (show decode mX6_pinOfOrder.2.1 59 = .ok (.lload_n 1, 1) by decide +kernel) rfl rfl ?_
      refine x_lload (pc := 60) (show decode mX6_pinOfOrder.2.1 60 = .ok (.lload 8, 2) by decide +kernel) rfl ?_
      obtain ⟨hg, hR⟩ := hR
      refine x_lcmp (pc := 62) (show decode mX6_pinOfOrder.2.1 62 = .ok (.lcmp, 1) by decide +kernel) ⟨hg.1, hg.2⟩ ?_
      refine x_if_ge (pc := 63) (tgt := 69) (show decode mX6_pinOfOrder.2.1 63 = .ok (.ifCond .ge 6, 3) by decide +kernel) (by decide) (xcmp_in _ _) (fun hc => ?_) (fun hc => ?_)
      · replace hR := hR.1 (xcmp_ge.mp hc)
        refine x_lload_n (pc := 69) (show decode mX6_pinOfOrder.2.1 69 = .ok (.lload_n 1, 1) by decide +kernel) rfl rfl ?_
        refine x_lload (pc := 70) (show decode mX6_pinOfOrder.2.1 70 = .ok (.lload 8, 2) by decide +kernel) rfl ?_
        refine x_lsub (pc := 72) (show decode mX6_pinOfOrder.2.1 72 = .ok (.lsub, 1) by decide +kernel) ?_
        refine x_lstore_n (pc := 73) (ls' := [some (.inr (.inr 32)), some (.inr (.inl (x1 - (h1 37 (xorI x4 (1 * 2 ^ (Int.toNat x7))))))), none, some (.inl x3), some (.inl x4), some (.inl x7), some (.inl x6), some (.inl x7), some (.inr (.inl (h1 37 (xorI x4 (1 * 2 ^ (Int.toNat x7)))))), none]) (show decode mX6_pinOfOrder.2.1 73 = .ok (.lstore_n 1, 1) by decide +kernel) rfl (by decide) rfl ?_
        refine x_iinc (pc := 74) (ls' := [some (.inr (.inr 32)), some (.inr (.inl (x1 - (h1 37 (xorI x4 (1 * 2 ^ (Int.toNat x7))))))), none, some (.inl x3), some (.inl x4), some (.inl x7), some (.inl x6), some (.inl (x7 + 1)), some (.inr (.inl (h1 37 (xorI x4 (1 * 2 ^ (Int.toNat x7)))))), none]) (show decode mX6_pinOfOrder.2.1 74 = .ok (.iinc 7 1, 3) by decide +kernel) (by decide) rfl rfl ?_
        refine x_goto (pc := 77) (tgt := 18) (show decode mX6_pinOfOrder.2.1 77 = .ok (.goto (-59), 3) by decide +kernel) (by decide) ?_
        exact x_weak (xle_get (by repeat' constructor)) hR
      · replace hR := hR.2 (xcmp_lt.mp hc)
        refine x_goto (pc := 66) (tgt := 80) (show decode mX6_pinOfOrder.2.1 66 = .ok (.goto 14, 3) by decide +kernel) (by decide) ?_
        refine x_iload (pc := 80) (show decode mX6_pinOfOrder.2.1 80 = .ok (.iload 4, 2) by decide +kernel) rfl ?_
        refine x_iconst (pc := 82) (n := 1) (show decode mX6_pinOfOrder.2.1 82 = .ok (.iconst 1, 1) by decide +kernel) ?_
        refine x_iload (pc := 83) (show decode mX6_pinOfOrder.2.1 83 = .ok (.iload 5, 2) by decide +kernel) rfl ?_
        obtain ⟨hg, hR⟩ := hR
        refine x_ishl (pc := 85) (show decode mX6_pinOfOrder.2.1 85 = .ok (.ishl, 1) by decide +kernel) hg ?_
        refine x_ior (pc := 86) (show decode mX6_pinOfOrder.2.1 86 = .ok (.ior, 1) by decide +kernel) ?_
        refine x_istore (pc := 87) (ls' := [some (.inr (.inr 32)), some (.inr (.inl x1)), none, some (.inl x3), some (.inl (xorI x4 (1 * 2 ^ (Int.toNat x7)))), some (.inl x7), some (.inl x6), some (.inl x7), some (.inr (.inl (h1 37 (xorI x4 (1 * 2 ^ (Int.toNat x7)))))), none]) (show decode mX6_pinOfOrder.2.1 87 = .ok (.istore 4, 2) by decide +kernel) (by decide) rfl ?_
        refine x_iinc (pc := 89) (ls' := [some (.inr (.inr 32)), some (.inr (.inl x1)), none, some (.inl x3), some (.inl (xorI x4 (1 * 2 ^ (Int.toNat x7)))), some (.inl x7), some (.inl (x6 + 1)), some (.inl x7), some (.inr (.inl (h1 37 (xorI x4 (1 * 2 ^ (Int.toNat x7)))))), none]) (show decode mX6_pinOfOrder.2.1 89 = .ok (.iinc 6 1, 3) by decide +kernel) (by decide) rfl rfl ?_
        refine x_goto (pc := 92) (tgt := 9) (show decode mX6_pinOfOrder.2.1 92 = .ok (.goto (-83), 3) by decide +kernel) (by decide) ?_
        exact x_weak (xle_get (by repeat' constructor)) hR
    · show xG _ _ _ 35 _ [.inl 0] _ _
      refine x_if_ne (pc := 35) (tgt := 41) (show decode mX6_pinOfOrder.2.1 35 = .ok (.ifCond .ne 6, 3) by decide +kernel) (by decide) (by unfold inI; decide) (fun hc => absurd hc (by decide)) (fun _ => ?_)
      refine x_goto (pc := 38) (tgt := 74) (show decode mX6_pinOfOrder.2.1 38 = .ok (.goto 36, 3) by decide +kernel) (by decide) ?_
      refine x_iinc (pc := 74) (ls' := [some (.inr (.inr 32)), some (.inr (.inl x1)), none, some (.inl x3), some (.inl x4), some (.inl x5), some (.inl x6), some (.inl (x7 + 1)), none, none]) (show decode mX6_pinOfOrder.2.1 74 = .ok (.iinc 7 1, 3) by decide +kernel) (by decide) rfl rfl ?_
      refine x_goto (pc := 77) (tgt := 18) (show decode mX6_pinOfOrder.2.1 77 = .ok (.goto (-59), 3) by decide +kernel) (by decide) ?_
      exact hR
set_option maxRecDepth 4000 in
theorem sg_X6_leastTravel_0 {d : Nat} {x1 : Int} {h : xH} {Q : Int → xH → Prop} (hd : 1 ≤ d)
    (hR : cI wdC (d - 1) mX6_wholeSet [.inr (.inr 32)] h (fun r2 h1 => gI wdC d mX6_leastTravel 7 [some (.inr (.inr 32)), some (.inl x1), none, some (.inl r2), none] h1 Q)) :
    gI wdC d mX6_leastTravel 0 [some (.inr (.inr 32)), some (.inl x1), none, none, none] h Q := by
  unfold gI
  refine x_aload_n (pc := 0) (show decode mX6_leastTravel.2.1 0 = .ok (.aload_n 0, 1) by decide +kernel) rfl rfl ?_
  refine x_callV (pc := 1) (As := []) (rest := []) (lk6_65 rfl) im_X6_wholeSet sl_X6_wholeSet rfl rfl rfl (Nat.le_of_ble_eq_true rfl) (Nat.le_of_ble_eq_true rfl) (show decode mX6_leastTravel.2.1 1 = .ok (.invokevirtual 65, 3) by decide +kernel) hd hR (fun r9 h1 hq => ?_)
  obtain ⟨r2, rfl, hR⟩ := hq
  show xG _ _ _ 4 _ [.inl r2] _ _
  refine x_istore_n (pc := 4) (ls' := [some (.inr (.inr 32)), some (.inl x1), some (.inl r2), none, none]) (show decode mX6_leastTravel.2.1 4 = .ok (.istore_n 2, 1) by decide +kernel) rfl (by decide) rfl ?_
  refine x_iload_n (pc := 5) (show decode mX6_leastTravel.2.1 5 = .ok (.iload_n 2, 1) by decide +kernel) rfl rfl ?_
  refine x_istore_n (pc := 6) (ls' := [some (.inr (.inr 32)), some (.inl x1), some (.inl r2), some (.inl r2), none]) (show decode mX6_leastTravel.2.1 6 = .ok (.istore_n 3, 1) by decide +kernel) rfl (by decide) rfl ?_
  exact x_weak (xle_get (by repeat' constructor)) hR
set_option maxRecDepth 4000 in
theorem sg_X6_leastTravel_7 {d : Nat} {x1 x3 : Int} {h : xH} {Q : Int → xH → Prop} (hd : 1 ≤ d)
    (hR : (inI x3) ∧ (x3 ≤ 0 → cI wdC (d - 1) mX6_leastFrom [.inr (.inr 32), .inl 0, .inl x1] h (fun r2 h1 => Q r2 h1)) ∧ (0 < x3 → (0 ≤ x3 ∧ x3 < 4096) ∧ (inI (h 36 x3)) ∧ (¬ (h 36 x3) = 0 → gI wdC d mX6_leastTravel 26 [some (.inr (.inr 32)), some (.inl x1), none, some (.inl x3), some (.inl 0)] h Q) ∧ ((h 36 x3) = 0 → gI wdC d mX6_leastTravel 7 [some (.inr (.inr 32)), some (.inl x1), none, some (.inl (x3 + (-1))), none] h Q))) :
    gI wdC d mX6_leastTravel 7 [some (.inr (.inr 32)), some (.inl x1), none, some (.inl x3), none] h Q := by
  unfold gI
  refine x_iload_n (pc := 7) (show decode mX6_leastTravel.2.1 7 = .ok (.iload_n 3, 1) by decide +kernel) rfl rfl ?_
  obtain ⟨hg, hR⟩ := hR
  refine x_if_le (pc := 8) (tgt := 80) (show decode mX6_leastTravel.2.1 8 = .ok (.ifCond .le 72, 3) by decide +kernel) (by decide) hg (fun hc => ?_) (fun hc => ?_)
  · replace hR := hR.1 hc
    refine x_aload_n (pc := 80) (show decode mX6_leastTravel.2.1 80 = .ok (.aload_n 0, 1) by decide +kernel) rfl rfl ?_
    refine x_iconst (pc := 81) (n := 0) (show decode mX6_leastTravel.2.1 81 = .ok (.iconst 0, 1) by decide +kernel) ?_
    refine x_iload_n (pc := 82) (show decode mX6_leastTravel.2.1 82 = .ok (.iload_n 1, 1) by decide +kernel) rfl rfl ?_
    refine x_callV (pc := 83) (As := [.inl 0, .inl x1]) (rest := []) (lk6_77 rfl) im_X6_leastFrom sl_X6_leastFrom rfl rfl rfl (Nat.le_of_ble_eq_true rfl) (Nat.le_of_ble_eq_true rfl) (show decode mX6_leastTravel.2.1 83 = .ok (.invokevirtual 77, 3) by decide +kernel) hd hR (fun r9 h1 hq => ?_)
    obtain ⟨r2, rfl, hR⟩ := hq
    show xG _ _ _ 86 _ [.inl r2] _ _
    exact x_iret (pc := 86) rfl (show decode mX6_leastTravel.2.1 86 = .ok (.ireturn, 1) by decide +kernel) ⟨_, rfl, hR⟩
  · replace hR := hR.2 hc
    refine x_aload_n (pc := 11) (show decode mX6_leastTravel.2.1 11 = .ok (.aload_n 0, 1) by decide +kernel) rfl rfl ?_
    refine x_getR (pc := 12) f6_29 rfl rfl (show decode mX6_leastTravel.2.1 12 = .ok (.getfield 29, 3) by decide +kernel) ?_
    refine x_iload_n (pc := 15) (show decode mX6_leastTravel.2.1 15 = .ok (.iload_n 3, 1) by decide +kernel) rfl rfl ?_
    obtain ⟨hg, hR⟩ := hR
    refine x_zald (pc := 16) rfl (by decide) hg (show decode mX6_leastTravel.2.1 16 = .ok (.baload, 1) by decide +kernel) ?_
    obtain ⟨hg, hR⟩ := hR
    refine x_if_ne (pc := 17) (tgt := 23) (show decode mX6_leastTravel.2.1 17 = .ok (.ifCond .ne 6, 3) by decide +kernel) (by decide) hg (fun hc => ?_) (fun hc => ?_)
    · replace hR := hR.1 hc
      refine x_iconst (pc := 23) (n := 0) (show decode mX6_leastTravel.2.1 23 = .ok (.iconst 0, 1) by decide +kernel) ?_
      refine x_istore (pc := 24) (ls' := [some (.inr (.inr 32)), some (.inl x1), none, some (.inl x3), some (.inl 0)]) (show decode mX6_leastTravel.2.1 24 = .ok (.istore 4, 2) by decide +kernel) (by decide) rfl ?_
      exact hR
    · replace hR := hR.2 hc
      refine x_goto (pc := 20) (tgt := 74) (show decode mX6_leastTravel.2.1 20 = .ok (.goto 54, 3) by decide +kernel) (by decide) ?_
      refine x_iinc (pc := 74) (ls' := [some (.inr (.inr 32)), some (.inl x1), none, some (.inl (x3 + (-1))), none]) (show decode mX6_leastTravel.2.1 74 = .ok (.iinc 3 (-1), 3) by decide +kernel) (by decide) rfl rfl ?_
      refine x_goto (pc := 77) (tgt := 7) (show decode mX6_leastTravel.2.1 77 = .ok (.goto (-70), 3) by decide +kernel) (by decide) ?_
      exact hR
set_option maxRecDepth 4000 in
theorem sg_X6_leastTravel_26 {d : Nat} {x1 x3 x4 : Int} {h : xH} {Q : Int → xH → Prop} (hd : 1 ≤ d)
    (hR : (inI x4 ∧ inI (h 32 0)) ∧ ((h 32 0) ≤ x4 → gI wdC d mX6_leastTravel 7 [some (.inr (.inr 32)), some (.inl x1), none, some (.inl (x3 + (-1))), none] h Q) ∧ (x4 < (h 32 0) → (inI x3 ∧ 0 ≤ x4 ∧ x4 ≤ 31) ∧ (inI (xandI (x3 / 2 ^ (Int.toNat x4)) 1)) ∧ (¬ (xandI (x3 / 2 ^ (Int.toNat x4)) 1) = 1 → gI wdC d mX6_leastTravel 26 [some (.inr (.inr 32)), some (.inl x1), none, some (.inl x3), some (.inl (x4 + 1))] h Q) ∧ ((xandI (x3 / 2 ^ (Int.toNat x4)) 1) = 1 → cI wdC (d - 1) mX6_placeOf [.inl x3, .inl x4] h (fun r2 h1 => (0 ≤ x4 ∧ x4 < 12) ∧ cI wdC (d - 1) mX6_leastFrom [.inr (.inr 32), .inl x3, .inl (h1 34 x4)] h1 (fun r4 h3 => (0 ≤ r2 ∧ r2 < 49152) ∧ gI wdC d mX6_leastTravel 26 [some (.inr (.inr 32)), some (.inl x1), none, some (.inl x3), some (.inl (x4 + 1))] (xu h3 38 r2 r4) Q))))) :
    gI wdC d mX6_leastTravel 26 [some (.inr (.inr 32)), some (.inl x1), none, some (.inl x3), some (.inl x4)] h Q := by
  unfold gI
  refine x_iload (pc := 26) (show decode mX6_leastTravel.2.1 26 = .ok (.iload 4, 2) by decide +kernel) rfl ?_
  refine x_aload_n (pc := 28) (show decode mX6_leastTravel.2.1 28 = .ok (.aload_n 0, 1) by decide +kernel) rfl rfl ?_
  refine x_getI (pc := 29) (ki := 0) f6_9 rfl rfl (by decide) rfl (show decode mX6_leastTravel.2.1 29 = .ok (.getfield 9, 3) by decide +kernel) ?_
  obtain ⟨hg, hR⟩ := hR
  refine x_icmp_ge (pc := 32) (tgt := 74) (show decode mX6_leastTravel.2.1 32 = .ok (.if_icmp .ge 42, 3) by decide +kernel) (by decide) ⟨hg.1, hg.2⟩ (fun hc => ?_) (fun hc => ?_)
  · replace hR := hR.1 hc
    refine x_iinc (pc := 74) (ls' := [some (.inr (.inr 32)), some (.inl x1), none, some (.inl (x3 + (-1))), some (.inl x4)]) (show decode mX6_leastTravel.2.1 74 = .ok (.iinc 3 (-1), 3) by decide +kernel) (by decide) rfl rfl ?_
    refine x_goto (pc := 77) (tgt := 7) (show decode mX6_leastTravel.2.1 77 = .ok (.goto (-70), 3) by decide +kernel) (by decide) ?_
    exact x_weak (xle_get (by repeat' constructor)) hR
  · replace hR := hR.2 hc
    refine x_iload_n (pc := 35) (show decode mX6_leastTravel.2.1 35 = .ok (.iload_n 3, 1) by decide +kernel) rfl rfl ?_
    refine x_iload (pc := 36) (show decode mX6_leastTravel.2.1 36 = .ok (.iload 4, 2) by decide +kernel) rfl ?_
    obtain ⟨hg, hR⟩ := hR
    refine x_ishr (pc := 38) (show decode mX6_leastTravel.2.1 38 = .ok (.ishr, 1) by decide +kernel) hg ?_
    refine x_iconst (pc := 39) (n := 1) (show decode mX6_leastTravel.2.1 39 = .ok (.iconst 1, 1) by decide +kernel) ?_
    refine x_iand (pc := 40) (show decode mX6_leastTravel.2.1 40 = .ok (.iand, 1) by decide +kernel) ?_
    refine x_iconst (pc := 41) (n := 1) (show decode mX6_leastTravel.2.1 41 = .ok (.iconst 1, 1) by decide +kernel) ?_
    obtain ⟨hg, hR⟩ := hR
    refine x_icmp_ne (pc := 42) (tgt := 68) (show decode mX6_leastTravel.2.1 42 = .ok (.if_icmp .ne 26, 3) by decide +kernel) (by decide) ⟨hg, (by unfold inI; decide)⟩ (fun hc => ?_) (fun hc => ?_)
    · replace hR := hR.1 hc
      refine x_iinc (pc := 68) (ls' := [some (.inr (.inr 32)), some (.inl x1), none, some (.inl x3), some (.inl (x4 + 1))]) (show decode mX6_leastTravel.2.1 68 = .ok (.iinc 4 1, 3) by decide +kernel) (by decide) rfl rfl ?_
      refine x_goto (pc := 71) (tgt := 26) (show decode mX6_leastTravel.2.1 71 = .ok (.goto (-45), 3) by decide +kernel) (by decide) ?_
      exact hR
    · replace hR := hR.2 hc
      refine x_aload_n (pc := 45) (show decode mX6_leastTravel.2.1 45 = .ok (.aload_n 0, 1) by decide +kernel) rfl rfl ?_
      refine x_getR (pc := 46) f6_38 rfl rfl (show decode mX6_leastTravel.2.1 46 = .ok (.getfield 38, 3) by decide +kernel) ?_
      refine x_iload_n (pc := 49) (show decode mX6_leastTravel.2.1 49 = .ok (.iload_n 3, 1) by decide +kernel) rfl rfl ?_
      refine x_iload (pc := 50) (show decode mX6_leastTravel.2.1 50 = .ok (.iload 4, 2) by decide +kernel) rfl ?_
      refine x_callS (pc := 52) (As := [.inl x3, .inl x4]) (rest := [.inr (.inr 38)]) (lk6_73 rfl) sm_X6_placeOf (Nat.le_of_ble_eq_true rfl) (Nat.le_of_ble_eq_true rfl) (show decode mX6_leastTravel.2.1 52 = .ok (.invokestatic 73, 3) by decide +kernel) hd hR (fun r9 h1 hq => ?_)
      obtain ⟨r2, rfl, hR⟩ := hq
      show xG _ _ _ 55 _ [.inl r2, .inr (.inr 38)] _ _
      refine x_aload_n (pc := 55) (show decode mX6_leastTravel.2.1 55 = .ok (.aload_n 0, 1) by decide +kernel) rfl rfl ?_
      refine x_iload_n (pc := 56) (show decode mX6_leastTravel.2.1 56 = .ok (.iload_n 3, 1) by decide +kernel) rfl rfl ?_
      refine x_aload_n (pc := 57) (show decode mX6_leastTravel.2.1 57 = .ok (.aload_n 0, 1) by decide +kernel) rfl rfl ?_
      refine x_getR (pc := 58) f6_23 rfl rfl (show decode mX6_leastTravel.2.1 58 = .ok (.getfield 23, 3) by decide +kernel) ?_
      refine x_iload (pc := 61) (show decode mX6_leastTravel.2.1 61 = .ok (.iload 4, 2) by decide +kernel) rfl ?_
      obtain ⟨hg, hR⟩ := hR
      refine x_iald (pc := 63) rfl (by decide) hg (show decode mX6_leastTravel.2.1 63 = .ok (.iaload, 1) by decide +kernel) ?_
      refine x_callV (pc := 64) (As := [.inl x3, .inl (h1 34 x4)]) (rest := [.inl r2, .inr (.inr 38)]) (lk6_77 rfl) im_X6_leastFrom sl_X6_leastFrom rfl rfl rfl (Nat.le_of_ble_eq_true rfl) (Nat.le_of_ble_eq_true rfl) (show decode mX6_leastTravel.2.1 64 = .ok (.invokevirtual 77, 3) by decide +kernel) hd hR (fun r9 h3 hq => ?_)
      obtain ⟨r4, rfl, hR⟩ := hq
      show xG _ _ _ 67 _ [.inl r4, .inl r2, .inr (.inr 38)] _ _
      obtain ⟨hg, hR⟩ := hR
      refine x_iast (pc := 67) rfl (by decide) hg (show decode mX6_leastTravel.2.1 67 = .ok (.iastore, 1) by decide +kernel) ?_
      refine x_iinc (pc := 68) (ls' := [some (.inr (.inr 32)), some (.inl x1), none, some (.inl x3), some (.inl (x4 + 1))]) (show decode mX6_leastTravel.2.1 68 = .ok (.iinc 4 1, 3) by decide +kernel) (by decide) rfl rfl ?_
      refine x_goto (pc := 71) (tgt := 26) (show decode mX6_leastTravel.2.1 71 = .ok (.goto (-45), 3) by decide +kernel) (by decide) ?_
      exact hR
set_option maxRecDepth 4000 in
theorem sg_X6_placeOf_0 {d : Nat} {x0 x1 : Int} {h : xH} {Q : Int → xH → Prop}
    (hR : Q ((x0 * 12) + x1) h) :
    gI wdC d mX6_placeOf 0 [some (.inl x0), some (.inl x1)] h Q := by
  unfold gI
  refine x_iload_n (pc := 0) (show decode mX6_placeOf.2.1 0 = .ok (.iload_n 0, 1) by decide +kernel) rfl rfl ?_
  refine x_bipush (pc := 1) (n := 12) (show decode mX6_placeOf.2.1 1 = .ok (.bipush 12, 2) by decide +kernel) rfl ?_
  refine x_imul (pc := 3) (show decode mX6_placeOf.2.1 3 = .ok (.imul, 1) by decide +kernel) ?_
  refine x_iload_n (pc := 4) (show decode mX6_placeOf.2.1 4 = .ok (.iload_n 1, 1) by decide +kernel) rfl rfl ?_
  refine x_iadd (pc := 5) (show decode mX6_placeOf.2.1 5 = .ok (.iadd, 1) by decide +kernel) ?_
  exact x_iret (pc := 6) rfl (show decode mX6_placeOf.2.1 6 = .ok (.ireturn, 1) by decide +kernel) ⟨_, rfl, hR⟩
set_option maxRecDepth 4000 in
theorem sg_X6_travelBy_0 {d : Nat} {x1 x2 x3 : Int} {h : xH} {Q : Int → xH → Prop} (hd : 1 ≤ d)
    (hR : (0 ≤ x3 ∧ x3 < 12) ∧ (inI (x2 - (h 34 x3))) ∧ (0 ≤ x3 ∧ x3 ≤ 31) ∧ cI wdC (d - 1) mX6_placeOf [.inl (xorI x1 (1 * 2 ^ (Int.toNat x3))), .inl x3] h (fun r2 h1 => (0 ≤ r2 ∧ r2 < 49152) ∧ Q ((max (x2 - (h 34 x3)) (-(x2 - (h 34 x3)))) + (h1 38 r2)) h1)) :
    gI wdC d mX6_travelBy 0 [some (.inr (.inr 32)), some (.inl x1), some (.inl x2), some (.inl x3)] h Q := by
  unfold gI
  refine x_iload_n (pc := 0) (show decode mX6_travelBy.2.1 0 = .ok (.iload_n 2, 1) by decide +kernel) rfl rfl ?_
  refine x_aload_n (pc := 1) (show decode mX6_travelBy.2.1 1 = .ok (.aload_n 0, 1) by decide +kernel) rfl rfl ?_
  refine x_getR (pc := 2) f6_23 rfl rfl (show decode mX6_travelBy.2.1 2 = .ok (.getfield 23, 3) by decide +kernel) ?_
  refine x_iload_n (pc := 5) (show decode mX6_travelBy.2.1 5 = .ok (.iload_n 3, 1) by decide +kernel) rfl rfl ?_
  obtain ⟨hg, hR⟩ := hR
  refine x_iald (pc := 6) rfl (by decide) hg (show decode mX6_travelBy.2.1 6 = .ok (.iaload, 1) by decide +kernel) ?_
  refine x_isub (pc := 7) (show decode mX6_travelBy.2.1 7 = .ok (.isub, 1) by decide +kernel) ?_
  obtain ⟨hg, hR⟩ := hR
  refine x_mabs (pc := 8) (b := 0) (tblG_m3 163 rfl rfl) MA_st M_in MA_cd hg (Nat.le_of_ble_eq_true rfl) hd (show decode mX6_travelBy.2.1 8 = .ok (.invokestatic 80, 3) by decide +kernel) ?_
  refine x_aload_n (pc := 11) (show decode mX6_travelBy.2.1 11 = .ok (.aload_n 0, 1) by decide +kernel) rfl rfl ?_
  refine x_getR (pc := 12) f6_38 rfl rfl (show decode mX6_travelBy.2.1 12 = .ok (.getfield 38, 3) by decide +kernel) ?_
  refine x_iload_n (pc := 15) (show decode mX6_travelBy.2.1 15 = .ok (.iload_n 1, 1) by decide +kernel) rfl rfl ?_
  refine x_iconst (pc := 16) (n := 1) (show decode mX6_travelBy.2.1 16 = .ok (.iconst 1, 1) by decide +kernel) ?_
  refine x_iload_n (pc := 17) (show decode mX6_travelBy.2.1 17 = .ok (.iload_n 3, 1) by decide +kernel) rfl rfl ?_
  obtain ⟨hg, hR⟩ := hR
  refine x_ishl (pc := 18) (show decode mX6_travelBy.2.1 18 = .ok (.ishl, 1) by decide +kernel) hg ?_
  refine x_ior (pc := 19) (show decode mX6_travelBy.2.1 19 = .ok (.ior, 1) by decide +kernel) ?_
  refine x_iload_n (pc := 20) (show decode mX6_travelBy.2.1 20 = .ok (.iload_n 3, 1) by decide +kernel) rfl rfl ?_
  refine x_callS (pc := 21) (As := [.inl (xorI x1 (1 * 2 ^ (Int.toNat x3))), .inl x3]) (rest := [.inr (.inr 38), .inl (max (x2 - (h 34 x3)) (-(x2 - (h 34 x3))))]) (lk6_73 rfl) sm_X6_placeOf (Nat.le_of_ble_eq_true rfl) (Nat.le_of_ble_eq_true rfl) (show decode mX6_travelBy.2.1 21 = .ok (.invokestatic 73, 3) by decide +kernel) hd hR (fun r9 h1 hq => ?_)
  obtain ⟨r2, rfl, hR⟩ := hq
  show xG _ _ _ 24 _ [.inl r2, .inr (.inr 38), .inl (max (x2 - (h 34 x3)) (-(x2 - (h 34 x3))))] _ _
  obtain ⟨hg, hR⟩ := hR
  refine x_iald (pc := 24) rfl (by decide) hg (show decode mX6_travelBy.2.1 24 = .ok (.iaload, 1) by decide +kernel) ?_
  refine x_iadd (pc := 25) (show decode mX6_travelBy.2.1 25 = .ok (.iadd, 1) by decide +kernel) ?_
  exact x_iret (pc := 26) rfl (show decode mX6_travelBy.2.1 26 = .ok (.ireturn, 1) by decide +kernel) ⟨_, rfl, hR⟩
set_option maxRecDepth 4000 in
theorem sg_X6_leastFrom_0 {d : Nat} {x1 x2 : Int} {h : xH} {Q : Int → xH → Prop}
    (hR : gI wdC d mX6_leastFrom 5 [some (.inr (.inr 32)), some (.inl x1), some (.inl x2), some (.inl (-1)), some (.inl 0), none] h Q) :
    gI wdC d mX6_leastFrom 0 [some (.inr (.inr 32)), some (.inl x1), some (.inl x2), none, none, none] h Q := by
  unfold gI
  refine x_iconst (pc := 0) (n := (-1)) (show decode mX6_leastFrom.2.1 0 = .ok (.iconst (-1), 1) by decide +kernel) ?_
  refine x_istore_n (pc := 1) (ls' := [some (.inr (.inr 32)), some (.inl x1), some (.inl x2), some (.inl (-1)), none, none]) (show decode mX6_leastFrom.2.1 1 = .ok (.istore_n 3, 1) by decide +kernel) rfl (by decide) rfl ?_
  refine x_iconst (pc := 2) (n := 0) (show decode mX6_leastFrom.2.1 2 = .ok (.iconst 0, 1) by decide +kernel) ?_
  refine x_istore (pc := 3) (ls' := [some (.inr (.inr 32)), some (.inl x1), some (.inl x2), some (.inl (-1)), some (.inl 0), none]) (show decode mX6_leastFrom.2.1 3 = .ok (.istore 4, 2) by decide +kernel) (by decide) rfl ?_
  exact hR
set_option maxRecDepth 4000 in
theorem sg_X6_leastFrom_5 {d : Nat} {x1 x2 x3 x4 : Int} {h : xH} {Q : Int → xH → Prop} (hd : 1 ≤ d)
    (hR : (inI x4 ∧ inI (h 32 0)) ∧ ((h 32 0) ≤ x4 → (inI x3) ∧ Q (max x3 0) h) ∧ (x4 < (h 32 0) → cB wdC (d - 1) mX6_comesNext [.inr (.inr 32), .inl x1, .inl x4] h (fun h1 => cI wdC (d - 1) mX6_travelBy [.inr (.inr 32), .inl x1, .inl x2, .inl x4] h1 (fun r3 h2 => (inI x3) ∧ (x3 < 0 → gI wdC d mX6_leastFrom 5 [some (.inr (.inr 32)), some (.inl x1), some (.inl x2), some (.inl r3), some (.inl (x4 + 1)), none] h2 Q) ∧ (0 ≤ x3 → (inI r3 ∧ inI x3) ∧ (x3 ≤ r3 → gI wdC d mX6_leastFrom 5 [some (.inr (.inr 32)), some (.inl x1), some (.inl x2), some (.inl x3), some (.inl (x4 + 1)), none] h2 Q) ∧ (r3 < x3 → gI wdC d mX6_leastFrom 5 [some (.inr (.inr 32)), some (.inl x1), some (.inl x2), some (.inl r3), some (.inl (x4 + 1)), none] h2 Q)))) (fun h1 => gI wdC d mX6_leastFrom 5 [some (.inr (.inr 32)), some (.inl x1), some (.inl x2), some (.inl x3), some (.inl (x4 + 1)), none] h1 Q))) :
    gI wdC d mX6_leastFrom 5 [some (.inr (.inr 32)), some (.inl x1), some (.inl x2), some (.inl x3), some (.inl x4), none] h Q := by
  unfold gI
  refine x_iload (pc := 5) (show decode mX6_leastFrom.2.1 5 = .ok (.iload 4, 2) by decide +kernel) rfl ?_
  refine x_aload_n (pc := 7) (show decode mX6_leastFrom.2.1 7 = .ok (.aload_n 0, 1) by decide +kernel) rfl rfl ?_
  refine x_getI (pc := 8) (ki := 0) f6_9 rfl rfl (by decide) rfl (show decode mX6_leastFrom.2.1 8 = .ok (.getfield 9, 3) by decide +kernel) ?_
  obtain ⟨hg, hR⟩ := hR
  refine x_icmp_ge (pc := 11) (tgt := 56) (show decode mX6_leastFrom.2.1 11 = .ok (.if_icmp .ge 45, 3) by decide +kernel) (by decide) ⟨hg.1, hg.2⟩ (fun hc => ?_) (fun hc => ?_)
  · replace hR := hR.1 hc
    refine x_iload_n (pc := 56) (show decode mX6_leastFrom.2.1 56 = .ok (.iload_n 3, 1) by decide +kernel) rfl rfl ?_
    refine x_iconst (pc := 57) (n := 0) (show decode mX6_leastFrom.2.1 57 = .ok (.iconst 0, 1) by decide +kernel) ?_
    obtain ⟨hg, hR⟩ := hR
    refine x_mmax (pc := 58) (tblG_m3 164 rfl rfl) MX_st M_in MX_cd ⟨hg, (by unfold inI; decide)⟩ (Nat.le_of_ble_eq_true rfl) hd (show decode mX6_leastFrom.2.1 58 = .ok (.invokestatic 90, 3) by decide +kernel) ?_
    exact x_iret (pc := 61) rfl (show decode mX6_leastFrom.2.1 61 = .ok (.ireturn, 1) by decide +kernel) ⟨_, rfl, hR⟩
  · replace hR := hR.2 hc
    refine x_aload_n (pc := 14) (show decode mX6_leastFrom.2.1 14 = .ok (.aload_n 0, 1) by decide +kernel) rfl rfl ?_
    refine x_iload_n (pc := 15) (show decode mX6_leastFrom.2.1 15 = .ok (.iload_n 1, 1) by decide +kernel) rfl rfl ?_
    refine x_iload (pc := 16) (show decode mX6_leastFrom.2.1 16 = .ok (.iload 4, 2) by decide +kernel) rfl ?_
    refine x_callV (pc := 18) (As := [.inl x1, .inl x4]) (rest := []) (lk6_69 rfl) im_X6_comesNext sl_X6_comesNext rfl rfl rfl (Nat.le_of_ble_eq_true rfl) (Nat.le_of_ble_eq_true rfl) (show decode mX6_leastFrom.2.1 18 = .ok (.invokevirtual 69, 3) by decide +kernel) hd hR (fun r9 h1 hq => ?_)
    obtain ⟨r8, rfl, hq⟩ := hq
    rcases hq with ⟨rfl, hR⟩ | ⟨rfl, hR⟩
    · show xG _ _ _ 21 _ [.inl 1] _ _
      refine x_if_ne (pc := 21) (tgt := 27) (show decode mX6_leastFrom.2.1 21 = .ok (.ifCond .ne 6, 3) by decide +kernel) (by decide) (by unfold inI; decide) (fun _ => ?_) (fun hc => absurd hc (by decide))
      refine x_aload_n (pc := 27) (show decode mX6_leastFrom.2.1 27 = .ok (.aload_n 0, 1) by decide +kernel) rfl rfl ?_
      refine x_iload_n (pc := 28) (show decode mX6_leastFrom.2.1 28 = .ok (.iload_n 1, 1) by decide +kernel) rfl rfl ?_
      refine x_iload_n (pc := 29) (show decode mX6_leastFrom.2.1 29 = .ok (.iload_n 2, 1) by decide +kernel) rfl rfl ?_
      refine x_iload (pc := 30) (show decode mX6_leastFrom.2.1 30 = .ok (.iload 4, 2) by decide +kernel) rfl ?_
      refine x_callV (pc := 32) (As := [.inl x1, .inl x2, .inl x4]) (rest := []) (lk6_86 rfl) im_X6_travelBy sl_X6_travelBy rfl rfl rfl (Nat.le_of_ble_eq_true rfl) (Nat.le_of_ble_eq_true rfl) (show decode mX6_leastFrom.2.1 32 = .ok (.invokevirtual 86, 3) by decide +kernel) hd hR (fun r9 h2 hq => ?_)
      obtain ⟨r3, rfl, hR⟩ := hq
      show xG _ _ _ 35 _ [.inl r3] _ _
      refine x_istore (pc := 35) (ls' := [some (.inr (.inr 32)), some (.inl x1), some (.inl x2), some (.inl x3), some (.inl x4), some (.inl r3)]) (show decode mX6_leastFrom.2.1 35 = .ok (.istore 5, 2) by decide +kernel) (by decide) rfl ?_
      refine x_iload_n (pc := 37) (show decode mX6_leastFrom.2.1 37 = .ok (.iload_n 3, 1) by decide +kernel) rfl rfl ?_
      obtain ⟨hg, hR⟩ := hR
      refine x_if_lt (pc := 38) (tgt := 47) (show decode mX6_leastFrom.2.1 38 = .ok (.ifCond .lt 9, 3) by decide +kernel) (by decide) hg (fun hc => ?_) (fun hc => ?_)
      · replace hR := hR.1 hc
        refine x_iload (pc := 47) (show decode mX6_leastFrom.2.1 47 = .ok (.iload 5, 2) by decide +kernel) rfl ?_
        refine x_istore_n (pc := 49) (ls' := [some (.inr (.inr 32)), some (.inl x1), some (.inl x2), some (.inl r3), some (.inl x4), some (.inl r3)]) (show decode mX6_leastFrom.2.1 49 = .ok (.istore_n 3, 1) by decide +kernel) rfl (by decide) rfl ?_
        refine x_iinc (pc := 50) (ls' := [some (.inr (.inr 32)), some (.inl x1), some (.inl x2), some (.inl r3), some (.inl (x4 + 1)), some (.inl r3)]) (show decode mX6_leastFrom.2.1 50 = .ok (.iinc 4 1, 3) by decide +kernel) (by decide) rfl rfl ?_
        refine x_goto (pc := 53) (tgt := 5) (show decode mX6_leastFrom.2.1 53 = .ok (.goto (-48), 3) by decide +kernel) (by decide) ?_
        exact x_weak (xle_get (by repeat' constructor)) hR
      · replace hR := hR.2 hc
        refine x_iload (pc := 41) (show decode mX6_leastFrom.2.1 41 = .ok (.iload 5, 2) by decide +kernel) rfl ?_
        refine x_iload_n (pc := 43) (show decode mX6_leastFrom.2.1 43 = .ok (.iload_n 3, 1) by decide +kernel) rfl rfl ?_
        obtain ⟨hg, hR⟩ := hR
        refine x_icmp_ge (pc := 44) (tgt := 50) (show decode mX6_leastFrom.2.1 44 = .ok (.if_icmp .ge 6, 3) by decide +kernel) (by decide) ⟨hg.1, hg.2⟩ (fun hc => ?_) (fun hc => ?_)
        · replace hR := hR.1 hc
          refine x_iinc (pc := 50) (ls' := [some (.inr (.inr 32)), some (.inl x1), some (.inl x2), some (.inl x3), some (.inl (x4 + 1)), some (.inl r3)]) (show decode mX6_leastFrom.2.1 50 = .ok (.iinc 4 1, 3) by decide +kernel) (by decide) rfl rfl ?_
          refine x_goto (pc := 53) (tgt := 5) (show decode mX6_leastFrom.2.1 53 = .ok (.goto (-48), 3) by decide +kernel) (by decide) ?_
          exact x_weak (xle_get (by repeat' constructor)) hR
        · replace hR := hR.2 hc
          refine x_iload (pc := 47) (show decode mX6_leastFrom.2.1 47 = .ok (.iload 5, 2) by decide +kernel) rfl ?_
          refine x_istore_n (pc := 49) (ls' := [some (.inr (.inr 32)), some (.inl x1), some (.inl x2), some (.inl r3), some (.inl x4), some (.inl r3)]) (show decode mX6_leastFrom.2.1 49 = .ok (.istore_n 3, 1) by decide +kernel) rfl (by decide) rfl ?_
          refine x_iinc (pc := 50) (ls' := [some (.inr (.inr 32)), some (.inl x1), some (.inl x2), some (.inl r3), some (.inl (x4 + 1)), some (.inl r3)]) (show decode mX6_leastFrom.2.1 50 = .ok (.iinc 4 1, 3) by decide +kernel) (by decide) rfl rfl ?_
          refine x_goto (pc := 53) (tgt := 5) (show decode mX6_leastFrom.2.1 53 = .ok (.goto (-48), 3) by decide +kernel) (by decide) ?_
          exact x_weak (xle_get (by repeat' constructor)) hR
    · show xG _ _ _ 21 _ [.inl 0] _ _
      refine x_if_ne (pc := 21) (tgt := 27) (show decode mX6_leastFrom.2.1 21 = .ok (.ifCond .ne 6, 3) by decide +kernel) (by decide) (by unfold inI; decide) (fun hc => absurd hc (by decide)) (fun _ => ?_)
      refine x_goto (pc := 24) (tgt := 50) (show decode mX6_leastFrom.2.1 24 = .ok (.goto 26, 3) by decide +kernel) (by decide) ?_
      refine x_iinc (pc := 50) (ls' := [some (.inr (.inr 32)), some (.inl x1), some (.inl x2), some (.inl x3), some (.inl (x4 + 1)), none]) (show decode mX6_leastFrom.2.1 50 = .ok (.iinc 4 1, 3) by decide +kernel) (by decide) rfl rfl ?_
      refine x_goto (pc := 53) (tgt := 5) (show decode mX6_leastFrom.2.1 53 = .ok (.goto (-48), 3) by decide +kernel) (by decide) ?_
      exact hR
set_option maxRecDepth 4000 in
theorem sg_X6_pinOfLeast_0 {d : Nat} {x1 x2 : Int} {h : xH} {Q : Int → xH → Prop} (hd : 1 ≤ d)
    (hR : cI wdC (d - 1) mX6_leastTravel [.inr (.inr 32), .inl x1] h (fun r2 h1 => gI wdC d mX6_pinOfLeast 18 [some (.inr (.inr 32)), none, some (.inl x2), some (.inl r2), some (.inl 0), some (.inl x1), some (.inl 0), some (.inl 0)] h1 Q)) :
    gI wdC d mX6_pinOfLeast 0 [some (.inr (.inr 32)), some (.inl x1), some (.inl x2), none, none, none, none, none] h Q := by
  unfold gI
  refine x_aload_n (pc := 0) (show decode mX6_pinOfLeast.2.1 0 = .ok (.aload_n 0, 1) by decide +kernel) rfl rfl ?_
  refine x_iload_n (pc := 1) (show decode mX6_pinOfLeast.2.1 1 = .ok (.iload_n 1, 1) by decide +kernel) rfl rfl ?_
  refine x_callV (pc := 2) (As := [.inl x1]) (rest := []) (lk6_93 rfl) im_X6_leastTravel sl_X6_leastTravel rfl rfl rfl (Nat.le_of_ble_eq_true rfl) (Nat.le_of_ble_eq_true rfl) (show decode mX6_pinOfLeast.2.1 2 = .ok (.invokevirtual 93, 3) by decide +kernel) hd hR (fun r9 h1 hq => ?_)
  obtain ⟨r2, rfl, hR⟩ := hq
  show xG _ _ _ 5 _ [.inl r2] _ _
  refine x_istore_n (pc := 5) (ls' := [some (.inr (.inr 32)), some (.inl x1), some (.inl x2), some (.inl r2), none, none, none, none]) (show decode mX6_pinOfLeast.2.1 5 = .ok (.istore_n 3, 1) by decide +kernel) rfl (by decide) rfl ?_
  refine x_iconst (pc := 6) (n := 0) (show decode mX6_pinOfLeast.2.1 6 = .ok (.iconst 0, 1) by decide +kernel) ?_
  refine x_istore (pc := 7) (ls' := [some (.inr (.inr 32)), some (.inl x1), some (.inl x2), some (.inl r2), some (.inl 0), none, none, none]) (show decode mX6_pinOfLeast.2.1 7 = .ok (.istore 4, 2) by decide +kernel) (by decide) rfl ?_
  refine x_iload_n (pc := 9) (show decode mX6_pinOfLeast.2.1 9 = .ok (.iload_n 1, 1) by decide +kernel) rfl rfl ?_
  refine x_istore (pc := 10) (ls' := [some (.inr (.inr 32)), some (.inl x1), some (.inl x2), some (.inl r2), some (.inl 0), some (.inl x1), none, none]) (show decode mX6_pinOfLeast.2.1 10 = .ok (.istore 5, 2) by decide +kernel) (by decide) rfl ?_
  refine x_iconst (pc := 12) (n := 0) (show decode mX6_pinOfLeast.2.1 12 = .ok (.iconst 0, 1) by decide +kernel) ?_
  refine x_istore (pc := 13) (ls' := [some (.inr (.inr 32)), some (.inl x1), some (.inl x2), some (.inl r2), some (.inl 0), some (.inl x1), some (.inl 0), none]) (show decode mX6_pinOfLeast.2.1 13 = .ok (.istore 6, 2) by decide +kernel) (by decide) rfl ?_
  refine x_iconst (pc := 15) (n := 0) (show decode mX6_pinOfLeast.2.1 15 = .ok (.iconst 0, 1) by decide +kernel) ?_
  refine x_istore (pc := 16) (ls' := [some (.inr (.inr 32)), some (.inl x1), some (.inl x2), some (.inl r2), some (.inl 0), some (.inl x1), some (.inl 0), some (.inl 0)]) (show decode mX6_pinOfLeast.2.1 16 = .ok (.istore 7, 2) by decide +kernel) (by decide) rfl ?_
  exact x_weak (xle_get (by repeat' constructor)) hR
set_option maxRecDepth 4000 in
theorem sg_X6_pinOfLeast_18 {d : Nat} {x2 x3 x4 x5 x6 x7 : Int} {h : xH} {Q : Int → xH → Prop} (hd : 1 ≤ d)
    (hR : (inI x7 ∧ inI x2) ∧ (x2 < x7 → (0 ≤ x6 ∧ x6 < 12) ∧ Q (h 33 x6) h) ∧ (x7 ≤ x2 → cI wdC (d - 1) mX6_firstBy [.inr (.inr 32), .inl x4, .inl x5, .inl x3] h (fun r2 h1 => (0 ≤ r2 ∧ r2 < 12) ∧ (inI (x5 - (h1 34 r2))) ∧ (0 ≤ r2 ∧ r2 ≤ 31) ∧ (0 ≤ r2 ∧ r2 < 12) ∧ gI wdC d mX6_pinOfLeast 18 [some (.inr (.inr 32)), none, some (.inl x2), some (.inl (x3 - (max (x5 - (h1 34 r2)) (-(x5 - (h1 34 r2)))))), some (.inl (xorI x4 (1 * 2 ^ (Int.toNat r2)))), some (.inl (h1 34 r2)), some (.inl r2), some (.inl (x7 + 1))] h1 Q))) :
    gI wdC d mX6_pinOfLeast 18 [some (.inr (.inr 32)), none, some (.inl x2), some (.inl x3), some (.inl x4), some (.inl x5), some (.inl x6), some (.inl x7)] h Q := by
  unfold gI
  refine x_iload (pc := 18) (show decode mX6_pinOfLeast.2.1 18 = .ok (.iload 7, 2) by decide +kernel) rfl ?_
  refine x_iload_n (pc := 20) (show decode mX6_pinOfLeast.2.1 20 = .ok (.iload_n 2, 1) by decide +kernel) rfl rfl ?_
  obtain ⟨hg, hR⟩ := hR
  refine x_icmp_gt (pc := 21) (tgt := 75) (show decode mX6_pinOfLeast.2.1 21 = .ok (.if_icmp .gt 54, 3) by decide +kernel) (by decide) ⟨hg.1, hg.2⟩ (fun hc => ?_) (fun hc => ?_)
  · replace hR := hR.1 hc
    refine x_aload_n (pc := 75) (show decode mX6_pinOfLeast.2.1 75 = .ok (.aload_n 0, 1) by decide +kernel) rfl rfl ?_
    refine x_getR (pc := 76) f6_19 rfl rfl (show decode mX6_pinOfLeast.2.1 76 = .ok (.getfield 19, 3) by decide +kernel) ?_
    refine x_iload (pc := 79) (show decode mX6_pinOfLeast.2.1 79 = .ok (.iload 6, 2) by decide +kernel) rfl ?_
    obtain ⟨hg, hR⟩ := hR
    refine x_iald (pc := 81) rfl (by decide) hg (show decode mX6_pinOfLeast.2.1 81 = .ok (.iaload, 1) by decide +kernel) ?_
    exact x_iret (pc := 82) rfl (show decode mX6_pinOfLeast.2.1 82 = .ok (.ireturn, 1) by decide +kernel) ⟨_, rfl, hR⟩
  · replace hR := hR.2 hc
    refine x_aload_n (pc := 24) (show decode mX6_pinOfLeast.2.1 24 = .ok (.aload_n 0, 1) by decide +kernel) rfl rfl ?_
    refine x_iload (pc := 25) (show decode mX6_pinOfLeast.2.1 25 = .ok (.iload 4, 2) by decide +kernel) rfl ?_
    refine x_iload (pc := 27) (show decode mX6_pinOfLeast.2.1 27 = .ok (.iload 5, 2) by decide +kernel) rfl ?_
    refine x_iload_n (pc := 29) (show decode mX6_pinOfLeast.2.1 29 = .ok (.iload_n 3, 1) by decide +kernel) rfl rfl ?_
    refine x_callV (pc := 30) (As := [.inl x4, .inl x5, .inl x3]) (rest := []) (lk6_96 rfl) im_X6_firstBy sl_X6_firstBy rfl rfl rfl (Nat.le_of_ble_eq_true rfl) (Nat.le_of_ble_eq_true rfl) (show decode mX6_pinOfLeast.2.1 30 = .ok (.invokevirtual 96, 3) by decide +kernel) hd hR (fun r9 h1 hq => ?_)
    obtain ⟨r2, rfl, hR⟩ := hq
    show xG _ _ _ 33 _ [.inl r2] _ _
    refine x_istore (pc := 33) (ls' := [some (.inr (.inr 32)), none, some (.inl x2), some (.inl x3), some (.inl x4), some (.inl x5), some (.inl r2), some (.inl x7)]) (show decode mX6_pinOfLeast.2.1 33 = .ok (.istore 6, 2) by decide +kernel) (by decide) rfl ?_
    refine x_iload_n (pc := 35) (show decode mX6_pinOfLeast.2.1 35 = .ok (.iload_n 3, 1) by decide +kernel) rfl rfl ?_
    refine x_iload (pc := 36) (show decode mX6_pinOfLeast.2.1 36 = .ok (.iload 5, 2) by decide +kernel) rfl ?_
    refine x_aload_n (pc := 38) (show decode mX6_pinOfLeast.2.1 38 = .ok (.aload_n 0, 1) by decide +kernel) rfl rfl ?_
    refine x_getR (pc := 39) f6_23 rfl rfl (show decode mX6_pinOfLeast.2.1 39 = .ok (.getfield 23, 3) by decide +kernel) ?_
    refine x_iload (pc := 42) (show decode mX6_pinOfLeast.2.1 42 = .ok (.iload 6, 2) by decide +kernel) rfl ?_
    obtain ⟨hg, hR⟩ := hR
    refine x_iald (pc := 44) rfl (by decide) hg (show decode mX6_pinOfLeast.2.1 44 = .ok (.iaload, 1) by decide +kernel) ?_
    refine x_isub (pc := 45) (show decode mX6_pinOfLeast.2.1 45 = .ok (.isub, 1) by decide +kernel) ?_
    obtain ⟨hg, hR⟩ := hR
    refine x_mabs (pc := 46) (b := 0) (tblG_m3 163 rfl rfl) MA_st M_in MA_cd hg (Nat.le_of_ble_eq_true rfl) hd (show decode mX6_pinOfLeast.2.1 46 = .ok (.invokestatic 80, 3) by decide +kernel) ?_
    refine x_isub (pc := 49) (show decode mX6_pinOfLeast.2.1 49 = .ok (.isub, 1) by decide +kernel) ?_
    refine x_istore_n (pc := 50) (ls' := [some (.inr (.inr 32)), none, some (.inl x2), some (.inl (x3 - (max (x5 - (h1 34 r2)) (-(x5 - (h1 34 r2)))))), some (.inl x4), some (.inl x5), some (.inl r2), some (.inl x7)]) (show decode mX6_pinOfLeast.2.1 50 = .ok (.istore_n 3, 1) by decide +kernel) rfl (by decide) rfl ?_
    refine x_iload (pc := 51) (show decode mX6_pinOfLeast.2.1 51 = .ok (.iload 4, 2) by decide +kernel) rfl ?_
    refine x_iconst (pc := 53) (n := 1) (show decode mX6_pinOfLeast.2.1 53 = .ok (.iconst 1, 1) by decide +kernel) ?_
    refine x_iload (pc := 54) (show decode mX6_pinOfLeast.2.1 54 = .ok (.iload 6, 2) by decide +kernel) rfl ?_
    obtain ⟨hg, hR⟩ := hR
    refine x_ishl (pc := 56) (show decode mX6_pinOfLeast.2.1 56 = .ok (.ishl, 1) by decide +kernel) hg ?_
    refine x_ior (pc := 57) (show decode mX6_pinOfLeast.2.1 57 = .ok (.ior, 1) by decide +kernel) ?_
    refine x_istore (pc := 58) (ls' := [some (.inr (.inr 32)), none, some (.inl x2), some (.inl (x3 - (max (x5 - (h1 34 r2)) (-(x5 - (h1 34 r2)))))), some (.inl (xorI x4 (1 * 2 ^ (Int.toNat r2)))), some (.inl x5), some (.inl r2), some (.inl x7)]) (show decode mX6_pinOfLeast.2.1 58 = .ok (.istore 4, 2) by decide +kernel) (by decide) rfl ?_
    refine x_aload_n (pc := 60) (show decode mX6_pinOfLeast.2.1 60 = .ok (.aload_n 0, 1) by decide +kernel) rfl rfl ?_
    refine x_getR (pc := 61) f6_23 rfl rfl (show decode mX6_pinOfLeast.2.1 61 = .ok (.getfield 23, 3) by decide +kernel) ?_
    refine x_iload (pc := 64) (show decode mX6_pinOfLeast.2.1 64 = .ok (.iload 6, 2) by decide +kernel) rfl ?_
    obtain ⟨hg, hR⟩ := hR
    refine x_iald (pc := 66) rfl (by decide) hg (show decode mX6_pinOfLeast.2.1 66 = .ok (.iaload, 1) by decide +kernel) ?_
    refine x_istore (pc := 67) (ls' := [some (.inr (.inr 32)), none, some (.inl x2), some (.inl (x3 - (max (x5 - (h1 34 r2)) (-(x5 - (h1 34 r2)))))), some (.inl (xorI x4 (1 * 2 ^ (Int.toNat r2)))), some (.inl (h1 34 r2)), some (.inl r2), some (.inl x7)]) (show decode mX6_pinOfLeast.2.1 67 = .ok (.istore 5, 2) by decide +kernel) (by decide) rfl ?_
    refine x_iinc (pc := 69) (ls' := [some (.inr (.inr 32)), none, some (.inl x2), some (.inl (x3 - (max (x5 - (h1 34 r2)) (-(x5 - (h1 34 r2)))))), some (.inl (xorI x4 (1 * 2 ^ (Int.toNat r2)))), some (.inl (h1 34 r2)), some (.inl r2), some (.inl (x7 + 1))]) (show decode mX6_pinOfLeast.2.1 69 = .ok (.iinc 7 1, 3) by decide +kernel) (by decide) rfl rfl ?_
    refine x_goto (pc := 72) (tgt := 18) (show decode mX6_pinOfLeast.2.1 72 = .ok (.goto (-54), 3) by decide +kernel) (by decide) ?_
    exact hR
set_option maxRecDepth 4000 in
theorem sg_X6_firstBy_0 {d : Nat} {x1 x2 x3 : Int} {h : xH} {Q : Int → xH → Prop}
    (hR : gI wdC d mX6_firstBy 3 [some (.inr (.inr 32)), some (.inl x1), some (.inl x2), some (.inl x3), some (.inl 0)] h Q) :
    gI wdC d mX6_firstBy 0 [some (.inr (.inr 32)), some (.inl x1), some (.inl x2), some (.inl x3), none] h Q := by
  unfold gI
  refine x_iconst (pc := 0) (n := 0) (show decode mX6_firstBy.2.1 0 = .ok (.iconst 0, 1) by decide +kernel) ?_
  refine x_istore (pc := 1) (ls' := [some (.inr (.inr 32)), some (.inl x1), some (.inl x2), some (.inl x3), some (.inl 0)]) (show decode mX6_firstBy.2.1 1 = .ok (.istore 4, 2) by decide +kernel) (by decide) rfl ?_
  exact hR
set_option maxRecDepth 4000 in
theorem sg_X6_firstBy_3 {d : Nat} {x1 x2 x3 x4 : Int} {h : xH} {Q : Int → xH → Prop} (hd : 1 ≤ d)
    (hR : (inI x4 ∧ inI (h 32 0)) ∧ ((h 32 0) ≤ x4 → Q 0 h) ∧ (x4 < (h 32 0) → cB wdC (d - 1) mX6_comesNext [.inr (.inr 32), .inl x1, .inl x4] h (fun h1 => cI wdC (d - 1) mX6_travelBy [.inr (.inr 32), .inl x1, .inl x2, .inl x4] h1 (fun r3 h2 => (inI r3 ∧ inI x3) ∧ (¬ r3 = x3 → gI wdC d mX6_firstBy 3 [some (.inr (.inr 32)), some (.inl x1), some (.inl x2), some (.inl x3), some (.inl (x4 + 1))] h2 Q) ∧ (r3 = x3 → Q x4 h2))) (fun h1 => gI wdC d mX6_firstBy 3 [some (.inr (.inr 32)), some (.inl x1), some (.inl x2), some (.inl x3), some (.inl (x4 + 1))] h1 Q))) :
    gI wdC d mX6_firstBy 3 [some (.inr (.inr 32)), some (.inl x1), some (.inl x2), some (.inl x3), some (.inl x4)] h Q := by
  unfold gI
  refine x_iload (pc := 3) (show decode mX6_firstBy.2.1 3 = .ok (.iload 4, 2) by decide +kernel) rfl ?_
  refine x_aload_n (pc := 5) (show decode mX6_firstBy.2.1 5 = .ok (.aload_n 0, 1) by decide +kernel) rfl rfl ?_
  refine x_getI (pc := 6) (ki := 0) f6_9 rfl rfl (by decide) rfl (show decode mX6_firstBy.2.1 6 = .ok (.getfield 9, 3) by decide +kernel) ?_
  obtain ⟨hg, hR⟩ := hR
  refine x_icmp_ge (pc := 9) (tgt := 43) (show decode mX6_firstBy.2.1 9 = .ok (.if_icmp .ge 34, 3) by decide +kernel) (by decide) ⟨hg.1, hg.2⟩ (fun hc => ?_) (fun hc => ?_)
  · replace hR := hR.1 hc
    refine x_iconst (pc := 43) (n := 0) (show decode mX6_firstBy.2.1 43 = .ok (.iconst 0, 1) by decide +kernel) ?_
    exact x_iret (pc := 44) rfl (show decode mX6_firstBy.2.1 44 = .ok (.ireturn, 1) by decide +kernel) ⟨_, rfl, hR⟩
  · replace hR := hR.2 hc
    refine x_aload_n (pc := 12) (show decode mX6_firstBy.2.1 12 = .ok (.aload_n 0, 1) by decide +kernel) rfl rfl ?_
    refine x_iload_n (pc := 13) (show decode mX6_firstBy.2.1 13 = .ok (.iload_n 1, 1) by decide +kernel) rfl rfl ?_
    refine x_iload (pc := 14) (show decode mX6_firstBy.2.1 14 = .ok (.iload 4, 2) by decide +kernel) rfl ?_
    refine x_callV (pc := 16) (As := [.inl x1, .inl x4]) (rest := []) (lk6_69 rfl) im_X6_comesNext sl_X6_comesNext rfl rfl rfl (Nat.le_of_ble_eq_true rfl) (Nat.le_of_ble_eq_true rfl) (show decode mX6_firstBy.2.1 16 = .ok (.invokevirtual 69, 3) by decide +kernel) hd hR (fun r9 h1 hq => ?_)
    obtain ⟨r8, rfl, hq⟩ := hq
    rcases hq with ⟨rfl, hR⟩ | ⟨rfl, hR⟩
    · show xG _ _ _ 19 _ [.inl 1] _ _
      refine x_if_eq (pc := 19) (tgt := 37) (show decode mX6_firstBy.2.1 19 = .ok (.ifCond .eq 18, 3) by decide +kernel) (by decide) (by unfold inI; decide) (fun hc => absurd hc (by decide)) (fun _ => ?_)
      refine x_aload_n (pc := 22) (show decode mX6_firstBy.2.1 22 = .ok (.aload_n 0, 1) by decide +kernel) rfl rfl ?_
      refine x_iload_n (pc := 23) (show decode mX6_firstBy.2.1 23 = .ok (.iload_n 1, 1) by decide +kernel) rfl rfl ?_
      refine x_iload_n (pc := 24) (show decode mX6_firstBy.2.1 24 = .ok (.iload_n 2, 1) by decide +kernel) rfl rfl ?_
      refine x_iload (pc := 25) (show decode mX6_firstBy.2.1 25 = .ok (.iload 4, 2) by decide +kernel) rfl ?_
      refine x_callV (pc := 27) (As := [.inl x1, .inl x2, .inl x4]) (rest := []) (lk6_86 rfl) im_X6_travelBy sl_X6_travelBy rfl rfl rfl (Nat.le_of_ble_eq_true rfl) (Nat.le_of_ble_eq_true rfl) (show decode mX6_firstBy.2.1 27 = .ok (.invokevirtual 86, 3) by decide +kernel) hd hR (fun r9 h2 hq => ?_)
      obtain ⟨r3, rfl, hR⟩ := hq
      show xG _ _ _ 30 _ [.inl r3] _ _
      refine x_iload_n (pc := 30) (show decode mX6_firstBy.2.1 30 = .ok (.iload_n 3, 1) by decide +kernel) rfl rfl ?_
      obtain ⟨hg, hR⟩ := hR
      refine x_icmp_ne (pc := 31) (tgt := 37) (show decode mX6_firstBy.2.1 31 = .ok (.if_icmp .ne 6, 3) by decide +kernel) (by decide) ⟨hg.1, hg.2⟩ (fun hc => ?_) (fun hc => ?_)
      · replace hR := hR.1 hc
        refine x_iinc (pc := 37) (ls' := [some (.inr (.inr 32)), some (.inl x1), some (.inl x2), some (.inl x3), some (.inl (x4 + 1))]) (show decode mX6_firstBy.2.1 37 = .ok (.iinc 4 1, 3) by decide +kernel) (by decide) rfl rfl ?_
        refine x_goto (pc := 40) (tgt := 3) (show decode mX6_firstBy.2.1 40 = .ok (.goto (-37), 3) by decide +kernel) (by decide) ?_
        exact hR
      · replace hR := hR.2 hc
        refine x_iload (pc := 34) (show decode mX6_firstBy.2.1 34 = .ok (.iload 4, 2) by decide +kernel) rfl ?_
        exact x_iret (pc := 36) rfl (show decode mX6_firstBy.2.1 36 = .ok (.ireturn, 1) by decide +kernel) ⟨_, rfl, hR⟩
    · show xG _ _ _ 19 _ [.inl 0] _ _
      refine x_if_eq (pc := 19) (tgt := 37) (show decode mX6_firstBy.2.1 19 = .ok (.ifCond .eq 18, 3) by decide +kernel) (by decide) (by unfold inI; decide) (fun _ => ?_) (fun hc => absurd hc (by decide))
      refine x_iinc (pc := 37) (ls' := [some (.inr (.inr 32)), some (.inl x1), some (.inl x2), some (.inl x3), some (.inl (x4 + 1))]) (show decode mX6_firstBy.2.1 37 = .ok (.iinc 4 1, 3) by decide +kernel) (by decide) rfl rfl ?_
      refine x_goto (pc := 40) (tgt := 3) (show decode mX6_firstBy.2.1 40 = .ok (.goto (-37), 3) by decide +kernel) (by decide) ?_
      exact hR
