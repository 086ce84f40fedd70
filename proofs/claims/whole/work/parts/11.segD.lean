/-! segments: what a method does from one cut point to the next (written by wip/whole/seg.py) -/
set_option maxRecDepth 4000 in
theorem sg_X5_append_0 {d : Nat} {x1 : Int} {h : xH} {Q : Int → xH → Prop}
    (hR : (inI (h 44 1)) ∧ ((h 44 1) < 120 → (0 ≤ (h 44 1) ∧ (h 44 1) < 120) ∧ Q 1 (xu (xu h 45 (h 44 1) x1) 44 1 ((h 44 1) + 1))) ∧ (120 ≤ (h 44 1) → Q 0 h)) :
    gI wdC d mX5_append 0 [some (.inr (.inr 44)), some (.inl x1)] h Q := by
  unfold gI
  refine x_aload_n (pc := 0) (show decode mX5_append.2.1 0 = .ok (.aload_n 0, 1) by decide +kernel) rfl rfl ?_
  refine x_getI (pc := 1) (ki := 1) f5_15 rfl rfl (by decide) rfl (show decode mX5_append.2.1 1 = .ok (.getfield 15, 3) by decide +kernel) ?_
  refine x_bipush (pc := 4) (n := 120) (show decode mX5_append.2.1 4 = .ok (.bipush 120, 2) by decide +kernel) rfl ?_
  obtain ⟨hg, hR⟩ := hR
  refine x_icmp_lt (pc := 6) (tgt := 11) (show decode mX5_append.2.1 6 = .ok (.if_icmp .lt 5, 3) by decide +kernel) (by decide) ⟨hg, (by unfold inI; decide)⟩ (fun hc => ?_) (fun hc => ?_)
  · replace hR := hR.1 hc
    refine x_aload_n (pc := 11) (show decode mX5_append.2.1 11 = .ok (.aload_n 0, 1) by decide +kernel) rfl rfl ?_
    refine x_getR (pc := 12) f5_9 rfl rfl (show decode mX5_append.2.1 12 = .ok (.getfield 9, 3) by decide +kernel) ?_
    refine x_aload_n (pc := 15) (show decode mX5_append.2.1 15 = .ok (.aload_n 0, 1) by decide +kernel) rfl rfl ?_
    refine x_getI (pc := 16) (ki := 1) f5_15 rfl rfl (by decide) rfl (show decode mX5_append.2.1 16 = .ok (.getfield 15, 3) by decide +kernel) ?_
    refine x_iload_n (pc := 19) (show decode mX5_append.2.1 19 = .ok (.iload_n 1, 1) by decide +kernel) rfl rfl ?_
    obtain ⟨hg, hR⟩ := hR
    refine x_iast (pc := 20) rfl (by decide) hg (show decode mX5_append.2.1 20 = .ok (.iastore, 1) by decide +kernel) ?_
    refine x_aload_n (pc := 21) (show decode mX5_append.2.1 21 = .ok (.aload_n 0, 1) by decide +kernel) rfl rfl ?_
    refine x_dup (pc := 22) (show decode mX5_append.2.1 22 = .ok (.dup, 1) by decide +kernel) rfl ?_
    refine x_getI (pc := 23) (ki := 1) f5_15 rfl rfl (by decide) rfl (show decode mX5_append.2.1 23 = .ok (.getfield 15, 3) by decide +kernel) ?_
    refine x_iconst (pc := 26) (n := 1) (show decode mX5_append.2.1 26 = .ok (.iconst 1, 1) by decide +kernel) ?_
    refine x_iadd (pc := 27) (show decode mX5_append.2.1 27 = .ok (.iadd, 1) by decide +kernel) ?_
    refine x_putI (pc := 28) (ki := 1) f5_15 fp5_1 rfl rfl rfl (show decode mX5_append.2.1 28 = .ok (.putfield 15, 3) by decide +kernel) ?_
    refine x_iconst (pc := 31) (n := 1) (show decode mX5_append.2.1 31 = .ok (.iconst 1, 1) by decide +kernel) ?_
    exact x_zret (pc := 32) rfl (show decode mX5_append.2.1 32 = .ok (.ireturn, 1) by decide +kernel) (by decide) ⟨_, rfl, hR⟩
  · replace hR := hR.2 hc
    refine x_iconst (pc := 9) (n := 0) (show decode mX5_append.2.1 9 = .ok (.iconst 0, 1) by decide +kernel) ?_
    exact x_zret (pc := 10) rfl (show decode mX5_append.2.1 10 = .ok (.ireturn, 1) by decide +kernel) (by decide) ⟨_, rfl, hR⟩
set_option maxRecDepth 4000 in
theorem sg_X5_read_0 {d : Nat} {h : xH} {Q : xH → Prop}
    (hR : gV wdC d mX5_read 17 [some (.inr (.inr 44)), some (.inl 0)] (xu (xu (xu h 44 2 0) 44 3 (-1)) 44 4 0) Q) :
    gV wdC d mX5_read 0 [some (.inr (.inr 44)), none] h Q := by
  unfold gV
  refine x_aload_n (pc := 0) (show decode mX5_read.2.1 0 = .ok (.aload_n 0, 1) by decide +kernel) rfl rfl ?_
  refine x_iconst (pc := 1) (n := 0) (show decode mX5_read.2.1 1 = .ok (.iconst 0, 1) by decide +kernel) ?_
  refine x_putI (pc := 2) (ki := 2) f5_19 fp5_2 rfl rfl rfl (show decode mX5_read.2.1 2 = .ok (.putfield 19, 3) by decide +kernel) ?_
  refine x_aload_n (pc := 5) (show decode mX5_read.2.1 5 = .ok (.aload_n 0, 1) by decide +kernel) rfl rfl ?_
  refine x_iconst (pc := 6) (n := (-1)) (show decode mX5_read.2.1 6 = .ok (.iconst (-1), 1) by decide +kernel) ?_
  refine x_putI (pc := 7) (ki := 3) f5_22 fp5_3 rfl rfl rfl (show decode mX5_read.2.1 7 = .ok (.putfield 22, 3) by decide +kernel) ?_
  refine x_aload_n (pc := 10) (show decode mX5_read.2.1 10 = .ok (.aload_n 0, 1) by decide +kernel) rfl rfl ?_
  refine x_iconst (pc := 11) (n := 0) (show decode mX5_read.2.1 11 = .ok (.iconst 0, 1) by decide +kernel) ?_
  refine x_putI (pc := 12) (ki := 4) f5_25 fp5_4 rfl rfl rfl (show decode mX5_read.2.1 12 = .ok (.putfield 25, 3) by decide +kernel) ?_
  refine x_iconst (pc := 15) (n := 0) (show decode mX5_read.2.1 15 = .ok (.iconst 0, 1) by decide +kernel) ?_
  refine x_istore_n (pc := 16) (ls' := [some (.inr (.inr 44)), some (.inl 0)]) (show decode mX5_read.2.1 16 = .ok (.istore_n 1, 1) by decide +kernel) rfl (by decide) rfl ?_
  exact hR
set_option maxRecDepth 4000 in
theorem sg_X5_read_17 {d : Nat} {x1 : Int} {h : xH} {Q : xH → Prop} (hd : 1 ≤ d)
    (hR : (inI x1) ∧ (20 ≤ x1 → Q h) ∧ (x1 < 20 → cV wdC (d - 1) mX5_readPart [.inr (.inr 44), .inl x1] h (fun h1 => (inI (h1 44 3)) ∧ (0 ≤ (h1 44 3) → Q (xu h1 44 4 (x1 + 1))) ∧ ((h1 44 3) < 0 → (inI (h1 44 2) ∧ inI (h1 44 1)) ∧ ((h1 44 2) < (h1 44 1) → cV wdC (d - 1) mX5_expect [.inr (.inr 44), .inl 59] (xu h1 44 4 (x1 + 1)) (fun h2 => (inI (h2 44 3)) ∧ ((h2 44 3) < 0 → gV wdC d mX5_read 17 [some (.inr (.inr 44)), some (.inl (x1 + 1))] h2 Q) ∧ (0 ≤ (h2 44 3) → Q h2))) ∧ ((h1 44 1) ≤ (h1 44 2) → Q (xu h1 44 4 (x1 + 1))))))) :
    gV wdC d mX5_read 17 [some (.inr (.inr 44)), some (.inl x1)] h Q := by
  unfold gV
  refine x_iload_n (pc := 17) (show decode mX5_read.2.1 17 = .ok (.iload_n 1, 1) by decide +kernel) rfl rfl ?_
  refine x_bipush (pc := 18) (n := 20) (show decode mX5_read.2.1 18 = .ok (.bipush 20, 2) by decide +kernel) rfl ?_
  obtain ⟨hg, hR⟩ := hR
  refine x_icmp_ge (pc := 20) (tgt := 74) (show decode mX5_read.2.1 20 = .ok (.if_icmp .ge 54, 3) by decide +kernel) (by decide) ⟨hg, (by unfold inI; decide)⟩ (fun hc => ?_) (fun hc => ?_)
  · replace hR := hR.1 hc
    exact x_vret (pc := 74) rfl (show decode mX5_read.2.1 74 = .ok (.return_, 1) by decide +kernel) ⟨rfl, hR⟩
  · replace hR := hR.2 hc
    refine x_aload_n (pc := 23) (show decode mX5_read.2.1 23 = .ok (.aload_n 0, 1) by decide +kernel) rfl rfl ?_
    refine x_iload_n (pc := 24) (show decode mX5_read.2.1 24 = .ok (.iload_n 1, 1) by decide +kernel) rfl rfl ?_
    refine x_callV (pc := 25) (As := [.inl x1]) (rest := []) (lk5_40 rfl) im_X5_readPart sl_X5_readPart rfl rfl rfl (Nat.le_of_ble_eq_true rfl) (Nat.le_of_ble_eq_true rfl) (show decode mX5_read.2.1 25 = .ok (.invokevirtual 40, 3) by decide +kernel) hd hR (fun r9 h1 hq => ?_)
    obtain ⟨rfl, hR⟩ := hq
    show xG _ _ _ 28 _ [] _ _
    refine x_aload_n (pc := 28) (show decode mX5_read.2.1 28 = .ok (.aload_n 0, 1) by decide +kernel) rfl rfl ?_
    refine x_iload_n (pc := 29) (show decode mX5_read.2.1 29 = .ok (.iload_n 1, 1) by decide +kernel) rfl rfl ?_
    refine x_iconst (pc := 30) (n := 1) (show decode mX5_read.2.1 30 = .ok (.iconst 1, 1) by decide +kernel) ?_
    refine x_iadd (pc := 31) (show decode mX5_read.2.1 31 = .ok (.iadd, 1) by decide +kernel) ?_
    refine x_putI (pc := 32) (ki := 4) f5_25 fp5_4 rfl rfl rfl (show decode mX5_read.2.1 32 = .ok (.putfield 25, 3) by decide +kernel) ?_
    refine x_aload_n (pc := 35) (show decode mX5_read.2.1 35 = .ok (.aload_n 0, 1) by decide +kernel) rfl rfl ?_
    refine x_getI (pc := 36) (ki := 3) f5_22 rfl rfl (by decide) rfl (show decode mX5_read.2.1 36 = .ok (.getfield 22, 3) by decide +kernel) ?_
    obtain ⟨hg, hR⟩ := hR
    refine x_if_ge (pc := 39) (tgt := 53) (show decode mX5_read.2.1 39 = .ok (.ifCond .ge 14, 3) by decide +kernel) (by decide) hg (fun hc => ?_) (fun hc => ?_)
    · replace hR := hR.1 hc
      exact x_vret (pc := 53) rfl (show decode mX5_read.2.1 53 = .ok (.return_, 1) by decide +kernel) ⟨rfl, hR⟩
    · replace hR := hR.2 hc
      refine x_aload_n (pc := 42) (show decode mX5_read.2.1 42 = .ok (.aload_n 0, 1) by decide +kernel) rfl rfl ?_
      refine x_getI (pc := 43) (ki := 2) f5_19 rfl rfl (by decide) rfl (show decode mX5_read.2.1 43 = .ok (.getfield 19, 3) by decide +kernel) ?_
      refine x_aload_n (pc := 46) (show decode mX5_read.2.1 46 = .ok (.aload_n 0, 1) by decide +kernel) rfl rfl ?_
      refine x_getI (pc := 47) (ki := 1) f5_15 rfl rfl (by decide) rfl (show decode mX5_read.2.1 47 = .ok (.getfield 15, 3) by decide +kernel) ?_
      obtain ⟨hg, hR⟩ := hR
      refine x_icmp_lt (pc := 50) (tgt := 54) (show decode mX5_read.2.1 50 = .ok (.if_icmp .lt 4, 3) by decide +kernel) (by decide) ⟨hg.1, hg.2⟩ (fun hc => ?_) (fun hc => ?_)
      · replace hR := hR.1 hc
        refine x_aload_n (pc := 54) (show decode mX5_read.2.1 54 = .ok (.aload_n 0, 1) by decide +kernel) rfl rfl ?_
        refine x_bipush (pc := 55) (n := 59) (show decode mX5_read.2.1 55 = .ok (.bipush 59, 2) by decide +kernel) rfl ?_
        refine x_callV (pc := 57) (As := [.inl 59]) (rest := []) (lk5_44 rfl) im_X5_expect sl_X5_expect rfl rfl rfl (Nat.le_of_ble_eq_true rfl) (Nat.le_of_ble_eq_true rfl) (show decode mX5_read.2.1 57 = .ok (.invokevirtual 44, 3) by decide +kernel) hd hR (fun r9 h2 hq => ?_)
        obtain ⟨rfl, hR⟩ := hq
        show xG _ _ _ 60 _ [] _ _
        refine x_aload_n (pc := 60) (show decode mX5_read.2.1 60 = .ok (.aload_n 0, 1) by decide +kernel) rfl rfl ?_
        refine x_getI (pc := 61) (ki := 3) f5_22 rfl rfl (by decide) rfl (show decode mX5_read.2.1 61 = .ok (.getfield 22, 3) by decide +kernel) ?_
        obtain ⟨hg, hR⟩ := hR
        refine x_if_lt (pc := 64) (tgt := 68) (show decode mX5_read.2.1 64 = .ok (.ifCond .lt 4, 3) by decide +kernel) (by decide) hg (fun hc => ?_) (fun hc => ?_)
        · replace hR := hR.1 hc
          refine x_iinc (pc := 68) (ls' := [some (.inr (.inr 44)), some (.inl (x1 + 1))]) (show decode mX5_read.2.1 68 = .ok (.iinc 1 1, 3) by decide +kernel) (by decide) rfl rfl ?_
          refine x_goto (pc := 71) (tgt := 17) (show decode mX5_read.2.1 71 = .ok (.goto (-54), 3) by decide +kernel) (by decide) ?_
          exact hR
        · replace hR := hR.2 hc
          exact x_vret (pc := 67) rfl (show decode mX5_read.2.1 67 = .ok (.return_, 1) by decide +kernel) ⟨rfl, hR⟩
      · replace hR := hR.2 hc
        exact x_vret (pc := 53) rfl (show decode mX5_read.2.1 53 = .ok (.return_, 1) by decide +kernel) ⟨rfl, hR⟩
set_option maxRecDepth 4000 in
theorem sg_X5_readPart_0 {d : Nat} {x1 : Int} {h : xH} {Q : xH → Prop} (hd : 1 ≤ d)
    (hR : cI wdC (d - 1) mX5_readKind [.inr (.inr 44)] h (fun r2 h1 => (0 ≤ x1 ∧ x1 < 20) ∧ (inI (h1 44 3)) ∧ ((h1 44 3) < 0 → cI wdC (d - 1) mX5_readNumber [.inr (.inr 44)] (xu h1 46 x1 r2) (fun r4 h3 => (0 ≤ x1 ∧ x1 < 20) ∧ (0 ≤ x1 ∧ x1 < 20) ∧ (inI (h3 46 x1)) ∧ ((h3 46 x1) = 0 → cI wdC (d - 1) mX5_readNumber [.inr (.inr 44)] (xu h3 47 x1 r4) (fun r6 h5 => (0 ≤ x1 ∧ x1 < 20) ∧ (0 ≤ x1 ∧ x1 < 20) ∧ (inI (h5 46 x1)) ∧ (¬ (h5 46 x1) = 0 → Q (xu h5 48 x1 r6)) ∧ ((h5 46 x1) = 0 → cI wdC (d - 1) mX5_readStitch [.inr (.inr 44)] (xu h5 48 x1 r6) (fun r8 h7 => (0 ≤ x1 ∧ x1 < 20) ∧ Q (xu h7 49 x1 r8))))) ∧ (¬ (h3 46 x1) = 0 → (0 ≤ x1 ∧ x1 < 20) ∧ (inI (h3 46 x1)) ∧ (¬ (h3 46 x1) = 1 → (0 ≤ x1 ∧ x1 < 20) ∧ (inI (h3 46 x1)) ∧ (¬ (h3 46 x1) = 0 → Q (xu h3 47 x1 r4)) ∧ ((h3 46 x1) = 0 → cI wdC (d - 1) mX5_readStitch [.inr (.inr 44)] (xu h3 47 x1 r4) (fun r10 h9 => (0 ≤ x1 ∧ x1 < 20) ∧ Q (xu h9 49 x1 r10)))) ∧ ((h3 46 x1) = 1 → cI wdC (d - 1) mX5_readNumber [.inr (.inr 44)] (xu h3 47 x1 r4) (fun r12 h11 => (0 ≤ x1 ∧ x1 < 20) ∧ (0 ≤ x1 ∧ x1 < 20) ∧ (inI (h11 46 x1)) ∧ (¬ (h11 46 x1) = 0 → Q (xu h11 48 x1 r12)) ∧ ((h11 46 x1) = 0 → cI wdC (d - 1) mX5_readStitch [.inr (.inr 44)] (xu h11 48 x1 r12) (fun r14 h13 => (0 ≤ x1 ∧ x1 < 20) ∧ Q (xu h13 49 x1 r14)))))))) ∧ (0 ≤ (h1 44 3) → Q (xu h1 46 x1 r2)))) :
    gV wdC d mX5_readPart 0 [some (.inr (.inr 44)), some (.inl x1)] h Q := by
  unfold gV
  refine x_aload_n (pc := 0) (show decode mX5_readPart.2.1 0 = .ok (.aload_n 0, 1) by decide +kernel) rfl rfl ?_
  refine x_getR (pc := 1) f5_28 rfl rfl (show decode mX5_readPart.2.1 1 = .ok (.getfield 28, 3) by decide +kernel) ?_
  refine x_iload_n (pc := 4) (show decode mX5_readPart.2.1 4 = .ok (.iload_n 1, 1) by decide +kernel) rfl rfl ?_
  refine x_aload_n (pc := 5) (show decode mX5_readPart.2.1 5 = .ok (.aload_n 0, 1) by decide +kernel) rfl rfl ?_
  refine x_callV (pc := 6) (As := []) (rest := [.inl x1, .inr (.inr 46)]) (lk5_47 rfl) im_X5_readKind sl_X5_readKind rfl rfl rfl (Nat.le_of_ble_eq_true rfl) (Nat.le_of_ble_eq_true rfl) (show decode mX5_readPart.2.1 6 = .ok (.invokevirtual 47, 3) by decide +kernel) hd hR (fun r9 h1 hq => ?_)
  obtain ⟨r2, rfl, hR⟩ := hq
  show xG _ _ _ 9 _ [.inl r2, .inl x1, .inr (.inr 46)] _ _
  obtain ⟨hg, hR⟩ := hR
  refine x_iast (pc := 9) rfl (by decide) hg (show decode mX5_readPart.2.1 9 = .ok (.iastore, 1) by decide +kernel) ?_
  refine x_aload_n (pc := 10) (show decode mX5_readPart.2.1 10 = .ok (.aload_n 0, 1) by decide +kernel) rfl rfl ?_
  refine x_getI (pc := 11) (ki := 3) f5_22 rfl rfl (by decide) rfl (show decode mX5_readPart.2.1 11 = .ok (.getfield 22, 3) by decide +kernel) ?_
  obtain ⟨hg, hR⟩ := hR
  refine x_if_lt (pc := 14) (tgt := 18) (show decode mX5_readPart.2.1 14 = .ok (.ifCond .lt 4, 3) by decide +kernel) (by decide) hg (fun hc => ?_) (fun hc => ?_)
  · replace hR := hR.1 hc
    refine x_aload_n (pc := 18) (show decode mX5_readPart.2.1 18 = .ok (.aload_n 0, 1) by decide +kernel) rfl rfl ?_
    refine x_getR (pc := 19) f5_31 rfl rfl (show decode mX5_readPart.2.1 19 = .ok (.getfield 31, 3) by decide +kernel) ?_
    refine x_iload_n (pc := 22) (show decode mX5_readPart.2.1 22 = .ok (.iload_n 1, 1) by decide +kernel) rfl rfl ?_
    refine x_aload_n (pc := 23) (show decode mX5_readPart.2.1 23 = .ok (.aload_n 0, 1) by decide +kernel) rfl rfl ?_
    refine x_callV (pc := 24) (As := []) (rest := [.inl x1, .inr (.inr 47)]) (lk5_51 rfl) im_X5_readNumber sl_X5_readNumber rfl rfl rfl (Nat.le_of_ble_eq_true rfl) (Nat.le_of_ble_eq_true rfl) (show decode mX5_readPart.2.1 24 = .ok (.invokevirtual 51, 3) by decide +kernel) hd hR (fun r9 h3 hq => ?_)
    obtain ⟨r4, rfl, hR⟩ := hq
    show xG _ _ _ 27 _ [.inl r4, .inl x1, .inr (.inr 47)] _ _
    obtain ⟨hg, hR⟩ := hR
    refine x_iast (pc := 27) rfl (by decide) hg (show decode mX5_readPart.2.1 27 = .ok (.iastore, 1) by decide +kernel) ?_
    refine x_aload_n (pc := 28) (show decode mX5_readPart.2.1 28 = .ok (.aload_n 0, 1) by decide +kernel) rfl rfl ?_
    refine x_getR (pc := 29) f5_28 rfl rfl (show decode mX5_readPart.2.1 29 = .ok (.getfield 28, 3) by decide +kernel) ?_
    refine x_iload_n (pc := 32) (show decode mX5_readPart.2.1 32 = .ok (.iload_n 1, 1) by decide +kernel) rfl rfl ?_
    obtain ⟨hg, hR⟩ := hR
    refine x_iald (pc := 33) rfl (by decide) hg (show decode mX5_readPart.2.1 33 = .ok (.iaload, 1) by decide +kernel) ?_
    obtain ⟨hg, hR⟩ := hR
    refine x_if_eq (pc := 34) (tgt := 47) (show decode mX5_readPart.2.1 34 = .ok (.ifCond .eq 13, 3) by decide +kernel) (by decide) hg (fun hc => ?_) (fun hc => ?_)
    · replace hR := hR.1 hc
      refine x_aload_n (pc := 47) (show decode mX5_readPart.2.1 47 = .ok (.aload_n 0, 1) by decide +kernel) rfl rfl ?_
      refine x_getR (pc := 48) f5_34 rfl rfl (show decode mX5_readPart.2.1 48 = .ok (.getfield 34, 3) by decide +kernel) ?_
      refine x_iload_n (pc := 51) (show decode mX5_readPart.2.1 51 = .ok (.iload_n 1, 1) by decide +kernel) rfl rfl ?_
      refine x_aload_n (pc := 52) (show decode mX5_readPart.2.1 52 = .ok (.aload_n 0, 1) by decide +kernel) rfl rfl ?_
      refine x_callV (pc := 53) (As := []) (rest := [.inl x1, .inr (.inr 48)]) (lk5_51 rfl) im_X5_readNumber sl_X5_readNumber rfl rfl rfl (Nat.le_of_ble_eq_true rfl) (Nat.le_of_ble_eq_true rfl) (show decode mX5_readPart.2.1 53 = .ok (.invokevirtual 51, 3) by decide +kernel) hd hR (fun r9 h5 hq => ?_)
      obtain ⟨r6, rfl, hR⟩ := hq
      show xG _ _ _ 56 _ [.inl r6, .inl x1, .inr (.inr 48)] _ _
      obtain ⟨hg, hR⟩ := hR
      refine x_iast (pc := 56) rfl (by decide) hg (show decode mX5_readPart.2.1 56 = .ok (.iastore, 1) by decide +kernel) ?_
      refine x_aload_n (pc := 57) (show decode mX5_readPart.2.1 57 = .ok (.aload_n 0, 1) by decide +kernel) rfl rfl ?_
      refine x_getR (pc := 58) f5_28 rfl rfl (show decode mX5_readPart.2.1 58 = .ok (.getfield 28, 3) by decide +kernel) ?_
      refine x_iload_n (pc := 61) (show decode mX5_readPart.2.1 61 = .ok (.iload_n 1, 1) by decide +kernel) rfl rfl ?_
      obtain ⟨hg, hR⟩ := hR
      refine x_iald (pc := 62) rfl (by decide) hg (show decode mX5_readPart.2.1 62 = .ok (.iaload, 1) by decide +kernel) ?_
      obtain ⟨hg, hR⟩ := hR
      refine x_if_ne (pc := 63) (tgt := 76) (show decode mX5_readPart.2.1 63 = .ok (.ifCond .ne 13, 3) by decide +kernel) (by decide) hg (fun hc => ?_) (fun hc => ?_)
      · replace hR := hR.1 hc
        exact x_vret (pc := 76) rfl (show decode mX5_readPart.2.1 76 = .ok (.return_, 1) by decide +kernel) ⟨rfl, hR⟩
      · replace hR := hR.2 hc
        refine x_aload_n (pc := 66) (show decode mX5_readPart.2.1 66 = .ok (.aload_n 0, 1) by decide +kernel) rfl rfl ?_
        refine x_getR (pc := 67) f5_37 rfl rfl (show decode mX5_readPart.2.1 67 = .ok (.getfield 37, 3) by decide +kernel) ?_
        refine x_iload_n (pc := 70) (show decode mX5_readPart.2.1 70 = .ok (.iload_n 1, 1) by decide +kernel) rfl rfl ?_
        refine x_aload_n (pc := 71) (show decode mX5_readPart.2.1 71 = .ok (.aload_n 0, 1) by decide +kernel) rfl rfl ?_
        refine x_callV (pc := 72) (As := []) (rest := [.inl x1, .inr (.inr 49)]) (lk5_54 rfl) im_X5_readStitch sl_X5_readStitch rfl rfl rfl (Nat.le_of_ble_eq_true rfl) (Nat.le_of_ble_eq_true rfl) (show decode mX5_readPart.2.1 72 = .ok (.invokevirtual 54, 3) by decide +kernel) hd hR (fun r9 h7 hq => ?_)
        obtain ⟨r8, rfl, hR⟩ := hq
        show xG _ _ _ 75 _ [.inl r8, .inl x1, .inr (.inr 49)] _ _
        obtain ⟨hg, hR⟩ := hR
        refine x_iast (pc := 75) rfl (by decide) hg (show decode mX5_readPart.2.1 75 = .ok (.iastore, 1) by decide +kernel) ?_
        exact x_vret (pc := 76) rfl (show decode mX5_readPart.2.1 76 = .ok (.return_, 1) by decide +kernel) ⟨rfl, hR⟩
    · replace hR := hR.2 hc
      refine x_aload_n (pc := 37) (show decode mX5_readPart.2.1 37 = .ok (.aload_n 0, 1) by decide +kernel) rfl rfl ?_
      refine x_getR (pc := 38) f5_28 rfl rfl (show decode mX5_readPart.2.1 38 = .ok (.getfield 28, 3) by decide +kernel) ?_
      refine x_iload_n (pc := 41) (show decode mX5_readPart.2.1 41 = .ok (.iload_n 1, 1) by decide +kernel) rfl rfl ?_
      obtain ⟨hg, hR⟩ := hR
      refine x_iald (pc := 42) rfl (by decide) hg (show decode mX5_readPart.2.1 42 = .ok (.iaload, 1) by decide +kernel) ?_
      refine x_iconst (pc := 43) (n := 1) (show decode mX5_readPart.2.1 43 = .ok (.iconst 1, 1) by decide +kernel) ?_
      obtain ⟨hg, hR⟩ := hR
      refine x_icmp_ne (pc := 44) (tgt := 57) (show decode mX5_readPart.2.1 44 = .ok (.if_icmp .ne 13, 3) by decide +kernel) (by decide) ⟨hg, (by unfold inI; decide)⟩ (fun hc => ?_) (fun hc => ?_)
      · replace hR := hR.1 hc
        refine x_aload_n (pc := 57) (show decode mX5_readPart.2.1 57 = .ok (.aload_n 0, 1) by decide +kernel) rfl rfl ?_
        refine x_getR (pc := 58) f5_28 rfl rfl (show decode mX5_readPart.2.1 58 = .ok (.getfield 28, 3) by decide +kernel) ?_
        refine x_iload_n (pc := 61) (show decode mX5_readPart.2.1 61 = .ok (.iload_n 1, 1) by decide +kernel) rfl rfl ?_
        obtain ⟨hg, hR⟩ := hR
        refine x_iald (pc := 62) rfl (by decide) hg (show decode mX5_readPart.2.1 62 = .ok (.iaload, 1) by decide +kernel) ?_
        obtain ⟨hg, hR⟩ := hR
        refine x_if_ne (pc := 63) (tgt := 76) (show decode mX5_readPart.2.1 63 = .ok (.ifCond .ne 13, 3) by decide +kernel) (by decide) hg (fun hc => ?_) (fun hc => ?_)
        · replace hR := hR.1 hc
          exact x_vret (pc := 76) rfl (show decode mX5_readPart.2.1 76 = .ok (.return_, 1) by decide +kernel) ⟨rfl, hR⟩
        · replace hR := hR.2 hc
          refine x_aload_n (pc := 66) (show decode mX5_readPart.2.1 66 = .ok (.aload_n 0, 1) by decide +kernel) rfl rfl ?_
          refine x_getR (pc := 67) f5_37 rfl rfl (show decode mX5_readPart.2.1 67 = .ok (.getfield 37, 3) by decide +kernel) ?_
          refine x_iload_n (pc := 70) (show decode mX5_readPart.2.1 70 = .ok (.iload_n 1, 1) by decide +kernel) rfl rfl ?_
          refine x_aload_n (pc := 71) (show decode mX5_readPart.2.1 71 = .ok (.aload_n 0, 1) by decide +kernel) rfl rfl ?_
          refine x_callV (pc := 72) (As := []) (rest := [.inl x1, .inr (.inr 49)]) (lk5_54 rfl) im_X5_readStitch sl_X5_readStitch rfl rfl rfl (Nat.le_of_ble_eq_true rfl) (Nat.le_of_ble_eq_true rfl) (show decode mX5_readPart.2.1 72 = .ok (.invokevirtual 54, 3) by decide +kernel) hd hR (fun r9 h9 hq => ?_)
          obtain ⟨r10, rfl, hR⟩ := hq
          show xG _ _ _ 75 _ [.inl r10, .inl x1, .inr (.inr 49)] _ _
          obtain ⟨hg, hR⟩ := hR
          refine x_iast (pc := 75) rfl (by decide) hg (show decode mX5_readPart.2.1 75 = .ok (.iastore, 1) by decide +kernel) ?_
          exact x_vret (pc := 76) rfl (show decode mX5_readPart.2.1 76 = .ok (.return_, 1) by decide +kernel) ⟨rfl, hR⟩
      · replace hR := hR.2 hc
        refine x_aload_n (pc := 47) (show decode mX5_readPart.2.1 47 = .ok (.aload_n 0, 1) by decide +kernel) rfl rfl ?_
        refine x_getR (pc := 48) f5_34 rfl rfl (show decode mX5_readPart.2.1 48 = .ok (.getfield 34, 3) by decide +kernel) ?_
        refine x_iload_n (pc := 51) (show decode mX5_readPart.2.1 51 = .ok (.iload_n 1, 1) by decide +kernel) rfl rfl ?_
        refine x_aload_n (pc := 52) (show decode mX5_readPart.2.1 52 = .ok (.aload_n 0, 1) by decide +kernel) rfl rfl ?_
        refine x_callV (pc := 53) (As := []) (rest := [.inl x1, .inr (.inr 48)]) (lk5_51 rfl) im_X5_readNumber sl_X5_readNumber rfl rfl rfl (Nat.le_of_ble_eq_true rfl) (Nat.le_of_ble_eq_true rfl) (show decode mX5_readPart.2.1 53 = .ok (.invokevirtual 51, 3) by decide +kernel) hd hR (fun r9 h11 hq => ?_)
        obtain ⟨r12, rfl, hR⟩ := hq
        show xG _ _ _ 56 _ [.inl r12, .inl x1, .inr (.inr 48)] _ _
        obtain ⟨hg, hR⟩ := hR
        refine x_iast (pc := 56) rfl (by decide) hg (show decode mX5_readPart.2.1 56 = .ok (.iastore, 1) by decide +kernel) ?_
        refine x_aload_n (pc := 57) (show decode mX5_readPart.2.1 57 = .ok (.aload_n 0, 1) by decide +kernel) rfl rfl ?_
        refine x_getR (pc := 58) f5_28 rfl rfl (show decode mX5_readPart.2.1 58 = .ok (.getfield 28, 3) by decide +kernel) ?_
        refine x_iload_n (pc := 61) (show decode mX5_readPart.2.1 61 = .ok (.iload_n 1, 1) by decide +kernel) rfl rfl ?_
        obtain ⟨hg, hR⟩ := hR
        refine x_iald (pc := 62) rfl (by decide) hg (show decode mX5_readPart.2.1 62 = .ok (.iaload, 1) by decide +kernel) ?_
        obtain ⟨hg, hR⟩ := hR
        refine x_if_ne (pc := 63) (tgt := 76) (show decode mX5_readPart.2.1 63 = .ok (.ifCond .ne 13, 3) by decide +kernel) (by decide) hg (fun hc => ?_) (fun hc => ?_)
        · replace hR := hR.1 hc
          exact x_vret (pc := 76) rfl (show decode mX5_readPart.2.1 76 = .ok (.return_, 1) by decide +kernel) ⟨rfl, hR⟩
        · replace hR := hR.2 hc
          refine x_aload_n (pc := 66) (show decode mX5_readPart.2.1 66 = .ok (.aload_n 0, 1) by decide +kernel) rfl rfl ?_
          refine x_getR (pc := 67) f5_37 rfl rfl (show decode mX5_readPart.2.1 67 = .ok (.getfield 37, 3) by decide +kernel) ?_
          refine x_iload_n (pc := 70) (show decode mX5_readPart.2.1 70 = .ok (.iload_n 1, 1) by decide +kernel) rfl rfl ?_
          refine x_aload_n (pc := 71) (show decode mX5_readPart.2.1 71 = .ok (.aload_n 0, 1) by decide +kernel) rfl rfl ?_
          refine x_callV (pc := 72) (As := []) (rest := [.inl x1, .inr (.inr 49)]) (lk5_54 rfl) im_X5_readStitch sl_X5_readStitch rfl rfl rfl (Nat.le_of_ble_eq_true rfl) (Nat.le_of_ble_eq_true rfl) (show decode mX5_readPart.2.1 72 = .ok (.invokevirtual 54, 3) by decide +kernel) hd hR (fun r9 h13 hq => ?_)
          obtain ⟨r14, rfl, hR⟩ := hq
          show xG _ _ _ 75 _ [.inl r14, .inl x1, .inr (.inr 49)] _ _
          obtain ⟨hg, hR⟩ := hR
          refine x_iast (pc := 75) rfl (by decide) hg (show decode mX5_readPart.2.1 75 = .ok (.iastore, 1) by decide +kernel) ?_
          exact x_vret (pc := 76) rfl (show decode mX5_readPart.2.1 76 = .ok (.return_, 1) by decide +kernel) ⟨rfl, hR⟩
  · replace hR := hR.2 hc
    exact x_vret (pc := 17) rfl (show decode mX5_readPart.2.1 17 = .ok (.return_, 1) by decide +kernel) ⟨rfl, hR⟩
set_option maxRecDepth 4000 in
theorem sg_X5_readKind_0 {d : Nat} {h : xH} {Q : Int → xH → Prop} (hd : 1 ≤ d)
    (hR : cV wdC (d - 1) mX5_skipWord [.inr (.inr 44)] h (fun h1 => cB wdC (d - 1) mX5_isWord [.inr (.inr 44), .inl (h 44 2), .inr (.inr 1000)] h1 (fun h2 => Q 0 h2) (fun h2 => cB wdC (d - 1) mX5_isWord [.inr (.inr 44), .inl (h 44 2), .inr (.inr 1001)] h2 (fun h3 => Q 1 h3) (fun h3 => cB wdC (d - 1) mX5_isWord [.inr (.inr 44), .inl (h 44 2), .inr (.inr 1002)] h3 (fun h4 => Q 2 h4) (fun h4 => cB wdC (d - 1) mX5_isWord [.inr (.inr 44), .inl (h 44 2), .inr (.inr 1003)] h4 (fun h5 => Q 3 h5) (fun h5 => Q 3 (xu h5 44 3 (h 44 2)))))))) :
    gI wdC d mX5_readKind 0 [some (.inr (.inr 44)), none] h Q := by
  unfold gI
  refine x_aload_n (pc := 0) (show decode mX5_readKind.2.1 0 = .ok (.aload_n 0, 1) by decide +kernel) rfl rfl ?_
  refine x_getI (pc := 1) (ki := 2) f5_19 rfl rfl (by decide) rfl (show decode mX5_readKind.2.1 1 = .ok (.getfield 19, 3) by decide +kernel) ?_
  refine x_istore_n (pc := 4) (ls' := [some (.inr (.inr 44)), some (.inl (h 44 2))]) (show decode mX5_readKind.2.1 4 = .ok (.istore_n 1, 1) by decide +kernel) rfl (by decide) rfl ?_
  refine x_aload_n (pc := 5) (show decode mX5_readKind.2.1 5 = .ok (.aload_n 0, 1) by decide +kernel) rfl rfl ?_
  refine x_callV (pc := 6) (As := []) (rest := []) (lk5_57 rfl) im_X5_skipWord sl_X5_skipWord rfl rfl rfl (Nat.le_of_ble_eq_true rfl) (Nat.le_of_ble_eq_true rfl) (show decode mX5_readKind.2.1 6 = .ok (.invokevirtual 57, 3) by decide +kernel) hd hR (fun r9 h1 hq => ?_)
  obtain ⟨rfl, hR⟩ := hq
  show xG _ _ _ 9 _ [] _ _
  refine x_aload_n (pc := 9) (show decode mX5_readKind.2.1 9 = .ok (.aload_n 0, 1) by decide +kernel) rfl rfl ?_
  refine x_iload_n (pc := 10) (show decode mX5_readKind.2.1 10 = .ok (.iload_n 1, 1) by decide +kernel) rfl rfl ?_
  refine x_ldcS (pc := 11) (i := 0) (by decide) rfl rfl (show decode mX5_readKind.2.1 11 = .ok (.ldc 60, 2) by decide +kernel) ?_
  refine x_callV (pc := 13) (As := [.inl (h 44 2), .inr (.inr 1000)]) (rest := []) (lk5_62 rfl) im_X5_isWord sl_X5_isWord rfl rfl rfl (Nat.le_of_ble_eq_true rfl) (Nat.le_of_ble_eq_true rfl) (show decode mX5_readKind.2.1 13 = .ok (.invokevirtual 62, 3) by decide +kernel) hd hR (fun r9 h2 hq => ?_)
  obtain ⟨r8, rfl, hq⟩ := hq
  rcases hq with ⟨rfl, hR⟩ | ⟨rfl, hR⟩
  · show xG _ _ _ 16 _ [.inl 1] _ _
    refine x_if_eq (pc := 16) (tgt := 21) (show decode mX5_readKind.2.1 16 = .ok (.ifCond .eq 5, 3) by decide +kernel) (by decide) (by unfold inI; decide) (fun hc => absurd hc (by decide)) (fun _ => ?_)
    refine x_iconst (pc := 19) (n := 0) (show decode mX5_readKind.2.1 19 = .ok (.iconst 0, 1) by decide +kernel) ?_
    exact x_iret (pc := 20) rfl (show decode mX5_readKind.2.1 20 = .ok (.ireturn, 1) by decide +kernel) ⟨_, rfl, hR⟩
  · show xG _ _ _ 16 _ [.inl 0] _ _
    refine x_if_eq (pc := 16) (tgt := 21) (show decode mX5_readKind.2.1 16 = .ok (.ifCond .eq 5, 3) by decide +kernel) (by decide) (by unfold inI; decide) (fun _ => ?_) (fun hc => absurd hc (by decide))
    refine x_aload_n (pc := 21) (show decode mX5_readKind.2.1 21 = .ok (.aload_n 0, 1) by decide +kernel) rfl rfl ?_
    refine x_iload_n (pc := 22) (show decode mX5_readKind.2.1 22 = .ok (.iload_n 1, 1) by decide +kernel) rfl rfl ?_
    refine x_ldcS (pc := 23) (i := 1) (by decide) rfl rfl (show decode mX5_readKind.2.1 23 = .ok (.ldc 66, 2) by decide +kernel) ?_
    refine x_callV (pc := 25) (As := [.inl (h 44 2), .inr (.inr 1001)]) (rest := []) (lk5_62 rfl) im_X5_isWord sl_X5_isWord rfl rfl rfl (Nat.le_of_ble_eq_true rfl) (Nat.le_of_ble_eq_true rfl) (show decode mX5_readKind.2.1 25 = .ok (.invokevirtual 62, 3) by decide +kernel) hd hR (fun r9 h3 hq => ?_)
    obtain ⟨r8, rfl, hq⟩ := hq
    rcases hq with ⟨rfl, hR⟩ | ⟨rfl, hR⟩
    · show xG _ _ _ 28 _ [.inl 1] _ _
      refine x_if_eq (pc := 28) (tgt := 33) (show decode mX5_readKind.2.1 28 = .ok (.ifCond .eq 5, 3) by decide +kernel) (by decide) (by unfold inI; decide) (fun hc => absurd hc (by decide)) (fun _ => ?_)
      refine x_iconst (pc := 31) (n := 1) (show decode mX5_readKind.2.1 31 = .ok (.iconst 1, 1) by decide +kernel) ?_
      exact x_iret (pc := 32) rfl (show decode mX5_readKind.2.1 32 = .ok (.ireturn, 1) by decide +kernel) ⟨_, rfl, hR⟩
    · show xG _ _ _ 28 _ [.inl 0] _ _
      refine x_if_eq (pc := 28) (tgt := 33) (show decode mX5_readKind.2.1 28 = .ok (.ifCond .eq 5, 3) by decide +kernel) (by decide) (by unfold inI; decide) (fun _ => ?_) (fun hc => absurd hc (by decide))
      refine x_aload_n (pc := 33) (show decode mX5_readKind.2.1 33 = .ok (.aload_n 0, 1) by decide +kernel) rfl rfl ?_
      refine x_iload_n (pc := 34) (show decode mX5_readKind.2.1 34 = .ok (.iload_n 1, 1) by decide +kernel) rfl rfl ?_
      refine x_ldcS (pc := 35) (i := 2) (by decide) rfl rfl (show decode mX5_readKind.2.1 35 = .ok (.ldc 68, 2) by decide +kernel) ?_
      refine x_callV (pc := 37) (As := [.inl (h 44 2), .inr (.inr 1002)]) (rest := []) (lk5_62 rfl) im_X5_isWord sl_X5_isWord rfl rfl rfl (Nat.le_of_ble_eq_true rfl) (Nat.le_of_ble_eq_true rfl) (show decode mX5_readKind.2.1 37 = .ok (.invokevirtual 62, 3) by decide +kernel) hd hR (fun r9 h4 hq => ?_)
      obtain ⟨r8, rfl, hq⟩ := hq
      rcases hq with ⟨rfl, hR⟩ | ⟨rfl, hR⟩
      · show xG _ _ _ 40 _ [.inl 1] _ _
        refine x_if_eq (pc := 40) (tgt := 45) (show decode mX5_readKind.2.1 40 = .ok (.ifCond .eq 5, 3) by decide +kernel) (by decide) (by unfold inI; decide) (fun hc => absurd hc (by decide)) (fun _ => ?_)
        refine x_iconst (pc := 43) (n := 2) (show decode mX5_readKind.2.1 43 = .ok (.iconst 2, 1) by decide +kernel) ?_
        exact x_iret (pc := 44) rfl (show decode mX5_readKind.2.1 44 = .ok (.ireturn, 1) by decide +kernel) ⟨_, rfl, hR⟩
      · show xG _ _ _ 40 _ [.inl 0] _ _
        refine x_if_eq (pc := 40) (tgt := 45) (show decode mX5_readKind.2.1 40 = .ok (.ifCond .eq 5, 3) by decide +kernel) (by decide) (by unfold inI; decide) (fun _ => ?_) (fun hc => absurd hc (by decide))
        refine x_aload_n (pc := 45) (show decode mX5_readKind.2.1 45 = .ok (.aload_n 0, 1) by decide +kernel) rfl rfl ?_
        refine x_iload_n (pc := 46) (show decode mX5_readKind.2.1 46 = .ok (.iload_n 1, 1) by decide +kernel) rfl rfl ?_
        refine x_ldcS (pc := 47) (i := 3) (by decide) rfl rfl (show decode mX5_readKind.2.1 47 = .ok (.ldc 70, 2) by decide +kernel) ?_
        refine x_callV (pc := 49) (As := [.inl (h 44 2), .inr (.inr 1003)]) (rest := []) (lk5_62 rfl) im_X5_isWord sl_X5_isWord rfl rfl rfl (Nat.le_of_ble_eq_true rfl) (Nat.le_of_ble_eq_true rfl) (show decode mX5_readKind.2.1 49 = .ok (.invokevirtual 62, 3) by decide +kernel) hd hR (fun r9 h5 hq => ?_)
        obtain ⟨r8, rfl, hq⟩ := hq
        rcases hq with ⟨rfl, hR⟩ | ⟨rfl, hR⟩
        · show xG _ _ _ 52 _ [.inl 1] _ _
          refine x_if_eq (pc := 52) (tgt := 57) (show decode mX5_readKind.2.1 52 = .ok (.ifCond .eq 5, 3) by decide +kernel) (by decide) (by unfold inI; decide) (fun hc => absurd hc (by decide)) (fun _ => ?_)
          refine x_iconst (pc := 55) (n := 3) (show decode mX5_readKind.2.1 55 = .ok (.iconst 3, 1) by decide +kernel) ?_
          exact x_iret (pc := 56) rfl (show decode mX5_readKind.2.1 56 = .ok (.ireturn, 1) by decide +kernel) ⟨_, rfl, hR⟩
        · show xG _ _ _ 52 _ [.inl 0] _ _
          refine x_if_eq (pc := 52) (tgt := 57) (show decode mX5_readKind.2.1 52 = .ok (.ifCond .eq 5, 3) by decide +kernel) (by decide) (by unfold inI; decide) (fun _ => ?_) (fun hc => absurd hc (by decide))
          refine x_aload_n (pc := 57) (show decode mX5_readKind.2.1 57 = .ok (.aload_n 0, 1) by decide +kernel) rfl rfl ?_
          refine x_iload_n (pc := 58) (show decode mX5_readKind.2.1 58 = .ok (.iload_n 1, 1) by decide +kernel) rfl rfl ?_
          refine x_putI (pc := 59) (ki := 3) f5_22 fp5_3 rfl rfl rfl (show decode mX5_readKind.2.1 59 = .ok (.putfield 22, 3) by decide +kernel) ?_
          refine x_iconst (pc := 62) (n := 3) (show decode mX5_readKind.2.1 62 = .ok (.iconst 3, 1) by decide +kernel) ?_
          exact x_iret (pc := 63) rfl (show decode mX5_readKind.2.1 63 = .ok (.ireturn, 1) by decide +kernel) ⟨_, rfl, hR⟩
set_option maxRecDepth 4000 in
theorem sg_X5_readStitch_0 {d : Nat} {h : xH} {Q : Int → xH → Prop} (hd : 1 ≤ d)
    (hR : cV wdC (d - 1) mX5_expect [.inr (.inr 44), .inl 32] h (fun h1 => (inI (h1 44 3)) ∧ ((h1 44 3) < 0 → cV wdC (d - 1) mX5_skipWord [.inr (.inr 44)] h1 (fun h2 => gI wdC d mX5_readStitch 26 [some (.inr (.inr 44)), some (.inl (h1 44 2)), some (.inl 0)] h2 Q)) ∧ (0 ≤ (h1 44 3) → Q 0 h1))) :
    gI wdC d mX5_readStitch 0 [some (.inr (.inr 44)), none, none] h Q := by
  unfold gI
  refine x_aload_n (pc := 0) (show decode mX5_readStitch.2.1 0 = .ok (.aload_n 0, 1) by decide +kernel) rfl rfl ?_
  refine x_bipush (pc := 1) (n := 32) (show decode mX5_readStitch.2.1 1 = .ok (.bipush 32, 2) by decide +kernel) rfl ?_
  refine x_callV (pc := 3) (As := [.inl 32]) (rest := []) (lk5_44 rfl) im_X5_expect sl_X5_expect rfl rfl rfl (Nat.le_of_ble_eq_true rfl) (Nat.le_of_ble_eq_true rfl) (show decode mX5_readStitch.2.1 3 = .ok (.invokevirtual 44, 3) by decide +kernel) hd hR (fun r9 h1 hq => ?_)
  obtain ⟨rfl, hR⟩ := hq
  show xG _ _ _ 6 _ [] _ _
  refine x_aload_n (pc := 6) (show decode mX5_readStitch.2.1 6 = .ok (.aload_n 0, 1) by decide +kernel) rfl rfl ?_
  refine x_getI (pc := 7) (ki := 3) f5_22 rfl rfl (by decide) rfl (show decode mX5_readStitch.2.1 7 = .ok (.getfield 22, 3) by decide +kernel) ?_
  obtain ⟨hg, hR⟩ := hR
  refine x_if_lt (pc := 10) (tgt := 15) (show decode mX5_readStitch.2.1 10 = .ok (.ifCond .lt 5, 3) by decide +kernel) (by decide) hg (fun hc => ?_) (fun hc => ?_)
  · replace hR := hR.1 hc
    refine x_aload_n (pc := 15) (show decode mX5_readStitch.2.1 15 = .ok (.aload_n 0, 1) by decide +kernel) rfl rfl ?_
    refine x_getI (pc := 16) (ki := 2) f5_19 rfl rfl (by decide) rfl (show decode mX5_readStitch.2.1 16 = .ok (.getfield 19, 3) by decide +kernel) ?_
    refine x_istore_n (pc := 19) (ls' := [some (.inr (.inr 44)), some (.inl (h1 44 2)), none]) (show decode mX5_readStitch.2.1 19 = .ok (.istore_n 1, 1) by decide +kernel) rfl (by decide) rfl ?_
    refine x_aload_n (pc := 20) (show decode mX5_readStitch.2.1 20 = .ok (.aload_n 0, 1) by decide +kernel) rfl rfl ?_
    refine x_callV (pc := 21) (As := []) (rest := []) (lk5_57 rfl) im_X5_skipWord sl_X5_skipWord rfl rfl rfl (Nat.le_of_ble_eq_true rfl) (Nat.le_of_ble_eq_true rfl) (show decode mX5_readStitch.2.1 21 = .ok (.invokevirtual 57, 3) by decide +kernel) hd hR (fun r9 h2 hq => ?_)
    obtain ⟨rfl, hR⟩ := hq
    show xG _ _ _ 24 _ [] _ _
    refine x_iconst (pc := 24) (n := 0) (show decode mX5_readStitch.2.1 24 = .ok (.iconst 0, 1) by decide +kernel) ?_
    refine x_istore_n (pc := 25) (ls' := [some (.inr (.inr 44)), some (.inl (h1 44 2)), some (.inl 0)]) (show decode mX5_readStitch.2.1 25 = .ok (.istore_n 2, 1) by decide +kernel) rfl (by decide) rfl ?_
    exact hR
  · replace hR := hR.2 hc
    refine x_iconst (pc := 13) (n := 0) (show decode mX5_readStitch.2.1 13 = .ok (.iconst 0, 1) by decide +kernel) ?_
    exact x_iret (pc := 14) rfl (show decode mX5_readStitch.2.1 14 = .ok (.ireturn, 1) by decide +kernel) ⟨_, rfl, hR⟩
set_option maxRecDepth 4000 in
theorem sg_X5_readStitch_26 {d : Nat} {x1 x2 : Int} {h : xH} {Q : Int → xH → Prop} (hd : 1 ≤ d)
    (hR : (inI x2) ∧ (5 ≤ x2 → Q 0 (xu h 44 3 x1)) ∧ (x2 < 5 → cR wdC (d - 1) mX5_nameOf [.inl x2] h (fun r2 h1 => cB wdC (d - 1) mX5_isWord [.inr (.inr 44), .inl x1, .inr (.inr (1000 + r2))] h1 (fun h3 => Q x2 h3) (fun h3 => gI wdC d mX5_readStitch 26 [some (.inr (.inr 44)), some (.inl x1), some (.inl (x2 + 1))] h3 Q)))) :
    gI wdC d mX5_readStitch 26 [some (.inr (.inr 44)), some (.inl x1), some (.inl x2)] h Q := by
  unfold gI
  refine x_iload_n (pc := 26) (show decode mX5_readStitch.2.1 26 = .ok (.iload_n 2, 1) by decide +kernel) rfl rfl ?_
  refine x_iconst (pc := 27) (n := 5) (show decode mX5_readStitch.2.1 27 = .ok (.iconst 5, 1) by decide +kernel) ?_
  obtain ⟨hg, hR⟩ := hR
  refine x_icmp_ge (pc := 28) (tgt := 51) (show decode mX5_readStitch.2.1 28 = .ok (.if_icmp .ge 23, 3) by decide +kernel) (by decide) ⟨hg, (by unfold inI; decide)⟩ (fun hc => ?_) (fun hc => ?_)
  · replace hR := hR.1 hc
    refine x_aload_n (pc := 51) (show decode mX5_readStitch.2.1 51 = .ok (.aload_n 0, 1) by decide +kernel) rfl rfl ?_
    refine x_iload_n (pc := 52) (show decode mX5_readStitch.2.1 52 = .ok (.iload_n 1, 1) by decide +kernel) rfl rfl ?_
    refine x_putI (pc := 53) (ki := 3) f5_22 fp5_3 rfl rfl rfl (show decode mX5_readStitch.2.1 53 = .ok (.putfield 22, 3) by decide +kernel) ?_
    refine x_iconst (pc := 56) (n := 0) (show decode mX5_readStitch.2.1 56 = .ok (.iconst 0, 1) by decide +kernel) ?_
    exact x_iret (pc := 57) rfl (show decode mX5_readStitch.2.1 57 = .ok (.ireturn, 1) by decide +kernel) ⟨_, rfl, hR⟩
  · replace hR := hR.2 hc
    refine x_aload_n (pc := 31) (show decode mX5_readStitch.2.1 31 = .ok (.aload_n 0, 1) by decide +kernel) rfl rfl ?_
    refine x_iload_n (pc := 32) (show decode mX5_readStitch.2.1 32 = .ok (.iload_n 1, 1) by decide +kernel) rfl rfl ?_
    refine x_iload_n (pc := 33) (show decode mX5_readStitch.2.1 33 = .ok (.iload_n 2, 1) by decide +kernel) rfl rfl ?_
    refine x_callS (pc := 34) (As := [.inl x2]) (rest := [.inl x1, .inr (.inr 44)]) (lk5_72 rfl) sm_X5_nameOf (Nat.le_of_ble_eq_true rfl) (Nat.le_of_ble_eq_true rfl) (show decode mX5_readStitch.2.1 34 = .ok (.invokestatic 72, 3) by decide +kernel) hd hR (fun r9 h1 hq => ?_)
    obtain ⟨r2, rfl, hR⟩ := hq
    show xG _ _ _ 37 _ [.inr (.inr (1000 + r2)), .inl x1, .inr (.inr 44)] _ _
    refine x_callV (pc := 37) (As := [.inl x1, .inr (.inr (1000 + r2))]) (rest := []) (lk5_62 rfl) im_X5_isWord sl_X5_isWord rfl rfl rfl (Nat.le_of_ble_eq_true rfl) (Nat.le_of_ble_eq_true rfl) (show decode mX5_readStitch.2.1 37 = .ok (.invokevirtual 62, 3) by decide +kernel) hd hR (fun r9 h3 hq => ?_)
    obtain ⟨r8, rfl, hq⟩ := hq
    rcases hq with ⟨rfl, hR⟩ | ⟨rfl, hR⟩
    · show xG _ _ _ 40 _ [.inl 1] _ _
      refine x_if_eq (pc := 40) (tgt := 45) (show decode mX5_readStitch.2.1 40 = .ok (.ifCond .eq 5, 3) by decide +kernel) (by decide) (by unfold inI; decide) (fun hc => absurd hc (by decide)) (fun _ => ?_)
      refine x_iload_n (pc := 43) (show decode mX5_readStitch.2.1 43 = .ok (.iload_n 2, 1) by decide +kernel) rfl rfl ?_
      exact x_iret (pc := 44) rfl (show decode mX5_readStitch.2.1 44 = .ok (.ireturn, 1) by decide +kernel) ⟨_, rfl, hR⟩
    · show xG _ _ _ 40 _ [.inl 0] _ _
      refine x_if_eq (pc := 40) (tgt := 45) (show decode mX5_readStitch.2.1 40 = .ok (.ifCond .eq 5, 3) by decide +kernel) (by decide) (by unfold inI; decide) (fun _ => ?_) (fun hc => absurd hc (by decide))
      refine x_iinc (pc := 45) (ls' := [some (.inr (.inr 44)), some (.inl x1), some (.inl (x2 + 1))]) (show decode mX5_readStitch.2.1 45 = .ok (.iinc 2 1, 3) by decide +kernel) (by decide) rfl rfl ?_
      refine x_goto (pc := 48) (tgt := 26) (show decode mX5_readStitch.2.1 48 = .ok (.goto (-22), 3) by decide +kernel) (by decide) ?_
      exact hR
set_option maxRecDepth 4000 in
theorem sg_X5_nameOf_0 {d : Nat} {x0 : Int} {h : xH} {Q : Nat → xH → Prop}
    (hR : inI x0 ∧ (x0 = 0 → Q 4 h) ∧ (x0 = 1 → Q 5 h) ∧ (x0 = 2 → Q 6 h) ∧ (x0 = 3 → Q 7 h) ∧ ((x0 < 0 ∨ 3 < x0) → Q 8 h)) :
    gR wdC d mX5_nameOf 0 [some (.inl x0)] h Q := by
  unfold gR
  refine x_iload_n (pc := 0) (show decode mX5_nameOf.2.1 0 = .ok (.iload_n 0, 1) by decide +kernel) rfl rfl ?_
  obtain ⟨hg, hR⟩ := hR
  rcases (show x0 = 0 ∨ x0 = 1 ∨ x0 = 2 ∨ x0 = 3 ∨ (x0 < 0 ∨ 3 < x0) by omega) with hc | hc | hc | hc | hc
  · replace hR := hR.1 hc
    refine x_tswAt (pc := 1) (n := 0) (tgt := 32) (show decode mX5_nameOf.2.1 1 = .ok (.tableswitch 43 0 3 #[31, 34, 37, 40], 31) by decide +kernel) hg hc (by decide) rfl (by decide) ?_
    refine x_ldcS (pc := 32) (i := 4) (by decide) rfl rfl (show decode mX5_nameOf.2.1 32 = .ok (.ldc 76, 2) by decide +kernel) ?_
    exact x_aret (pc := 34) rfl (show decode mX5_nameOf.2.1 34 = .ok (.areturn, 1) by decide +kernel) ⟨4, rfl, hR⟩
  · replace hR := hR.2.1 hc
    refine x_tswAt (pc := 1) (n := 1) (tgt := 35) (show decode mX5_nameOf.2.1 1 = .ok (.tableswitch 43 0 3 #[31, 34, 37, 40], 31) by decide +kernel) hg hc (by decide) rfl (by decide) ?_
    refine x_ldcS (pc := 35) (i := 5) (by decide) rfl rfl (show decode mX5_nameOf.2.1 35 = .ok (.ldc 78, 2) by decide +kernel) ?_
    exact x_aret (pc := 37) rfl (show decode mX5_nameOf.2.1 37 = .ok (.areturn, 1) by decide +kernel) ⟨5, rfl, hR⟩
  · replace hR := hR.2.2.1 hc
    refine x_tswAt (pc := 1) (n := 2) (tgt := 38) (show decode mX5_nameOf.2.1 1 = .ok (.tableswitch 43 0 3 #[31, 34, 37, 40], 31) by decide +kernel) hg hc (by decide) rfl (by decide) ?_
    refine x_ldcS (pc := 38) (i := 6) (by decide) rfl rfl (show decode mX5_nameOf.2.1 38 = .ok (.ldc 80, 2) by decide +kernel) ?_
    exact x_aret (pc := 40) rfl (show decode mX5_nameOf.2.1 40 = .ok (.areturn, 1) by decide +kernel) ⟨6, rfl, hR⟩
  · replace hR := hR.2.2.2.1 hc
    refine x_tswAt (pc := 1) (n := 3) (tgt := 41) (show decode mX5_nameOf.2.1 1 = .ok (.tableswitch 43 0 3 #[31, 34, 37, 40], 31) by decide +kernel) hg hc (by decide) rfl (by decide) ?_
    refine x_ldcS (pc := 41) (i := 7) (by decide) rfl rfl (show decode mX5_nameOf.2.1 41 = .ok (.ldc 82, 2) by decide +kernel) ?_
    exact x_aret (pc := 43) rfl (show decode mX5_nameOf.2.1 43 = .ok (.areturn, 1) by decide +kernel) ⟨7, rfl, hR⟩
  · replace hR := hR.2.2.2.2 hc
    refine x_tswOut (pc := 1) (tgt := 44) (show decode mX5_nameOf.2.1 1 = .ok (.tableswitch 43 0 3 #[31, 34, 37, 40], 31) by decide +kernel) hg hc (by decide) ?_
    refine x_ldcS (pc := 44) (i := 8) (by decide) rfl rfl (show decode mX5_nameOf.2.1 44 = .ok (.ldc 84, 2) by decide +kernel) ?_
    exact x_aret (pc := 46) rfl (show decode mX5_nameOf.2.1 46 = .ok (.areturn, 1) by decide +kernel) ⟨8, rfl, hR⟩
set_option maxRecDepth 4000 in
theorem sg_X5_readNumber_0 {d : Nat} {h : xH} {Q : Int → xH → Prop} (hd : 1 ≤ d)
    (hR : cV wdC (d - 1) mX5_expect [.inr (.inr 44), .inl 32] h (fun h1 => (inI (h1 44 3)) ∧ ((h1 44 3) < 0 → cB wdC (d - 1) mX5_isFigureHere [.inr (.inr 44)] h1 (fun h2 => cI wdC (d - 1) mX5_readFigure [.inr (.inr 44)] h2 (fun r4 h3 => cB wdC (d - 1) mX5_isFigureHere [.inr (.inr 44)] h3 (fun h5 => cI wdC (d - 1) mX5_readFigure [.inr (.inr 44)] h5 (fun r7 h6 => Q ((10 * r4) + r7) h6)) (fun h5 => Q r4 h5))) (fun h2 => Q 0 (xu h2 44 3 (h2 44 2)))) ∧ (0 ≤ (h1 44 3) → Q 0 h1))) :
    gI wdC d mX5_readNumber 0 [some (.inr (.inr 44)), none] h Q := by
  unfold gI
  refine x_aload_n (pc := 0) (show decode mX5_readNumber.2.1 0 = .ok (.aload_n 0, 1) by decide +kernel) rfl rfl ?_
  refine x_bipush (pc := 1) (n := 32) (show decode mX5_readNumber.2.1 1 = .ok (.bipush 32, 2) by decide +kernel) rfl ?_
  refine x_callV (pc := 3) (As := [.inl 32]) (rest := []) (lk5_44 rfl) im_X5_expect sl_X5_expect rfl rfl rfl (Nat.le_of_ble_eq_true rfl) (Nat.le_of_ble_eq_true rfl) (show decode mX5_readNumber.2.1 3 = .ok (.invokevirtual 44, 3) by decide +kernel) hd hR (fun r9 h1 hq => ?_)
  obtain ⟨rfl, hR⟩ := hq
  show xG _ _ _ 6 _ [] _ _
  refine x_aload_n (pc := 6) (show decode mX5_readNumber.2.1 6 = .ok (.aload_n 0, 1) by decide +kernel) rfl rfl ?_
  refine x_getI (pc := 7) (ki := 3) f5_22 rfl rfl (by decide) rfl (show decode mX5_readNumber.2.1 7 = .ok (.getfield 22, 3) by decide +kernel) ?_
  obtain ⟨hg, hR⟩ := hR
  refine x_if_lt (pc := 10) (tgt := 15) (show decode mX5_readNumber.2.1 10 = .ok (.ifCond .lt 5, 3) by decide +kernel) (by decide) hg (fun hc => ?_) (fun hc => ?_)
  · replace hR := hR.1 hc
    refine x_aload_n (pc := 15) (show decode mX5_readNumber.2.1 15 = .ok (.aload_n 0, 1) by decide +kernel) rfl rfl ?_
    refine x_callV (pc := 16) (As := []) (rest := []) (lk5_86 rfl) im_X5_isFigureHere sl_X5_isFigureHere rfl rfl rfl (Nat.le_of_ble_eq_true rfl) (Nat.le_of_ble_eq_true rfl) (show decode mX5_readNumber.2.1 16 = .ok (.invokevirtual 86, 3) by decide +kernel) hd hR (fun r9 h2 hq => ?_)
    obtain ⟨r8, rfl, hq⟩ := hq
    rcases hq with ⟨rfl, hR⟩ | ⟨rfl, hR⟩
    · show xG _ _ _ 19 _ [.inl 1] _ _
      refine x_if_ne (pc := 19) (tgt := 32) (show decode mX5_readNumber.2.1 19 = .ok (.ifCond .ne 13, 3) by decide +kernel) (by decide) (by unfold inI; decide) (fun _ => ?_) (fun hc => absurd hc (by decide))
      refine x_aload_n (pc := 32) (show decode mX5_readNumber.2.1 32 = .ok (.aload_n 0, 1) by decide +kernel) rfl rfl ?_
      refine x_callV (pc := 33) (As := []) (rest := []) (lk5_90 rfl) im_X5_readFigure sl_X5_readFigure rfl rfl rfl (Nat.le_of_ble_eq_true rfl) (Nat.le_of_ble_eq_true rfl) (show decode mX5_readNumber.2.1 33 = .ok (.invokevirtual 90, 3) by decide +kernel) hd hR (fun r9 h3 hq => ?_)
      obtain ⟨r4, rfl, hR⟩ := hq
      show xG _ _ _ 36 _ [.inl r4] _ _
      refine x_istore_n (pc := 36) (ls' := [some (.inr (.inr 44)), some (.inl r4)]) (show decode mX5_readNumber.2.1 36 = .ok (.istore_n 1, 1) by decide +kernel) rfl (by decide) rfl ?_
      refine x_aload_n (pc := 37) (show decode mX5_readNumber.2.1 37 = .ok (.aload_n 0, 1) by decide +kernel) rfl rfl ?_
      refine x_callV (pc := 38) (As := []) (rest := []) (lk5_86 rfl) im_X5_isFigureHere sl_X5_isFigureHere rfl rfl rfl (Nat.le_of_ble_eq_true rfl) (Nat.le_of_ble_eq_true rfl) (show decode mX5_readNumber.2.1 38 = .ok (.invokevirtual 86, 3) by decide +kernel) hd hR (fun r9 h5 hq => ?_)
      obtain ⟨r8, rfl, hq⟩ := hq
      rcases hq with ⟨rfl, hR⟩ | ⟨rfl, hR⟩
      · show xG _ _ _ 41 _ [.inl 1] _ _
        refine x_if_eq (pc := 41) (tgt := 56) (show decode mX5_readNumber.2.1 41 = .ok (.ifCond .eq 15, 3) by decide +kernel) (by decide) (by unfold inI; decide) (fun hc => absurd hc (by decide)) (fun _ => ?_)
        refine x_bipush (pc := 44) (n := 10) (show decode mX5_readNumber.2.1 44 = .ok (.bipush 10, 2) by decide +kernel) rfl ?_
        refine x_iload_n (pc := 46) (show decode mX5_readNumber.2.1 46 = .ok (.iload_n 1, 1) by decide +kernel) rfl rfl ?_
        refine x_imul (pc := 47) (show decode mX5_readNumber.2.1 47 = .ok (.imul, 1) by decide +kernel) ?_
        refine x_aload_n (pc := 48) (show decode mX5_readNumber.2.1 48 = .ok (.aload_n 0, 1) by decide +kernel) rfl rfl ?_
        refine x_callV (pc := 49) (As := []) (rest := [.inl (10 * r4)]) (lk5_90 rfl) im_X5_readFigure sl_X5_readFigure rfl rfl rfl (Nat.le_of_ble_eq_true rfl) (Nat.le_of_ble_eq_true rfl) (show decode mX5_readNumber.2.1 49 = .ok (.invokevirtual 90, 3) by decide +kernel) hd hR (fun r9 h6 hq => ?_)
        obtain ⟨r7, rfl, hR⟩ := hq
        show xG _ _ _ 52 _ [.inl r7, .inl (10 * r4)] _ _
        refine x_iadd (pc := 52) (show decode mX5_readNumber.2.1 52 = .ok (.iadd, 1) by decide +kernel) ?_
        refine x_goto (pc := 53) (tgt := 57) (show decode mX5_readNumber.2.1 53 = .ok (.goto 4, 3) by decide +kernel) (by decide) ?_
        exact x_iret (pc := 57) rfl (show decode mX5_readNumber.2.1 57 = .ok (.ireturn, 1) by decide +kernel) ⟨_, rfl, hR⟩
      · show xG _ _ _ 41 _ [.inl 0] _ _
        refine x_if_eq (pc := 41) (tgt := 56) (show decode mX5_readNumber.2.1 41 = .ok (.ifCond .eq 15, 3) by decide +kernel) (by decide) (by unfold inI; decide) (fun _ => ?_) (fun hc => absurd hc (by decide))
        refine x_iload_n (pc := 56) (show decode mX5_readNumber.2.1 56 = .ok (.iload_n 1, 1) by decide +kernel) rfl rfl ?_
        exact x_iret (pc := 57) rfl (show decode mX5_readNumber.2.1 57 = .ok (.ireturn, 1) by decide +kernel) ⟨_, rfl, hR⟩
    · show xG _ _ _ 19 _ [.inl 0] _ _
      refine x_if_ne (pc := 19) (tgt := 32) (show decode mX5_readNumber.2.1 19 = .ok (.ifCond .ne 13, 3) by decide +kernel) (by decide) (by unfold inI; decide) (fun hc => absurd hc (by decide)) (fun _ => ?_)
      refine x_aload_n (pc := 22) (show decode mX5_readNumber.2.1 22 = .ok (.aload_n 0, 1) by decide +kernel) rfl rfl ?_
      refine x_aload_n (pc := 23) (show decode mX5_readNumber.2.1 23 = .ok (.aload_n 0, 1) by decide +kernel) rfl rfl ?_
      refine x_getI (pc := 24) (ki := 2) f5_19 rfl rfl (by decide) rfl (show decode mX5_readNumber.2.1 24 = .ok (.getfield 19, 3) by decide +kernel) ?_
      refine x_putI (pc := 27) (ki := 3) f5_22 fp5_3 rfl rfl rfl (show decode mX5_readNumber.2.1 27 = .ok (.putfield 22, 3) by decide +kernel) ?_
      refine x_iconst (pc := 30) (n := 0) (show decode mX5_readNumber.2.1 30 = .ok (.iconst 0, 1) by decide +kernel) ?_
      exact x_iret (pc := 31) rfl (show decode mX5_readNumber.2.1 31 = .ok (.ireturn, 1) by decide +kernel) ⟨_, rfl, hR⟩
  · replace hR := hR.2 hc
    refine x_iconst (pc := 13) (n := 0) (show decode mX5_readNumber.2.1 13 = .ok (.iconst 0, 1) by decide +kernel) ?_
    exact x_iret (pc := 14) rfl (show decode mX5_readNumber.2.1 14 = .ok (.ireturn, 1) by decide +kernel) ⟨_, rfl, hR⟩
set_option maxRecDepth 4000 in
theorem sg_X5_isFigureHere_0 {d : Nat} {h : xH} {Q : Int → xH → Prop}
    (hR : (inI (h 44 2) ∧ inI (h 44 1)) ∧ ((h 44 1) ≤ (h 44 2) → Q 0 h) ∧ ((h 44 2) < (h 44 1) → (0 ≤ (h 44 2) ∧ (h 44 2) < 120) ∧ (inI (h 45 (h 44 2))) ∧ ((h 45 (h 44 2)) < 48 → Q 0 h) ∧ (48 ≤ (h 45 (h 44 2)) → (0 ≤ (h 44 2) ∧ (h 44 2) < 120) ∧ (inI (h 45 (h 44 2))) ∧ (57 < (h 45 (h 44 2)) → Q 0 h) ∧ ((h 45 (h 44 2)) ≤ 57 → Q 1 h)))) :
    gI wdC d mX5_isFigureHere 0 [some (.inr (.inr 44))] h Q := by
  unfold gI
  refine x_aload_n (pc := 0) (show decode mX5_isFigureHere.2.1 0 = .ok (.aload_n 0, 1) by decide +kernel) rfl rfl ?_
  refine x_getI (pc := 1) (ki := 2) f5_19 rfl rfl (by decide) rfl (show decode mX5_isFigureHere.2.1 1 = .ok (.getfield 19, 3) by decide +kernel) ?_
  refine x_aload_n (pc := 4) (show decode mX5_isFigureHere.2.1 4 = .ok (.aload_n 0, 1) by decide +kernel) rfl rfl ?_
  refine x_getI (pc := 5) (ki := 1) f5_15 rfl rfl (by decide) rfl (show decode mX5_isFigureHere.2.1 5 = .ok (.getfield 15, 3) by decide +kernel) ?_
  obtain ⟨hg, hR⟩ := hR
  refine x_icmp_ge (pc := 8) (tgt := 43) (show decode mX5_isFigureHere.2.1 8 = .ok (.if_icmp .ge 35, 3) by decide +kernel) (by decide) ⟨hg.1, hg.2⟩ (fun hc => ?_) (fun hc => ?_)
  · replace hR := hR.1 hc
    refine x_iconst (pc := 43) (n := 0) (show decode mX5_isFigureHere.2.1 43 = .ok (.iconst 0, 1) by decide +kernel) ?_
    exact x_zret (pc := 44) rfl (show decode mX5_isFigureHere.2.1 44 = .ok (.ireturn, 1) by decide +kernel) (by decide) ⟨_, rfl, hR⟩
  · replace hR := hR.2 hc
    refine x_aload_n (pc := 11) (show decode mX5_isFigureHere.2.1 11 = .ok (.aload_n 0, 1) by decide +kernel) rfl rfl ?_
    refine x_getR (pc := 12) f5_9 rfl rfl (show decode mX5_isFigureHere.2.1 12 = .ok (.getfield 9, 3) by decide +kernel) ?_
    refine x_aload_n (pc := 15) (show decode mX5_isFigureHere.2.1 15 = .ok (.aload_n 0, 1) by decide +kernel) rfl rfl ?_
    refine x_getI (pc := 16) (ki := 2) f5_19 rfl rfl (by decide) rfl (show decode mX5_isFigureHere.2.1 16 = .ok (.getfield 19, 3) by decide +kernel) ?_
    obtain ⟨hg, hR⟩ := hR
    refine x_iald (pc := 19) rfl (by decide) hg (show decode mX5_isFigureHere.2.1 19 = .ok (.iaload, 1) by decide +kernel) ?_
    refine x_bipush (pc := 20) (n := 48) (show decode mX5_isFigureHere.2.1 20 = .ok (.bipush 48, 2) by decide +kernel) rfl ?_
    obtain ⟨hg, hR⟩ := hR
    refine x_icmp_lt (pc := 22) (tgt := 43) (show decode mX5_isFigureHere.2.1 22 = .ok (.if_icmp .lt 21, 3) by decide +kernel) (by decide) ⟨hg, (by unfold inI; decide)⟩ (fun hc => ?_) (fun hc => ?_)
    · replace hR := hR.1 hc
      refine x_iconst (pc := 43) (n := 0) (show decode mX5_isFigureHere.2.1 43 = .ok (.iconst 0, 1) by decide +kernel) ?_
      exact x_zret (pc := 44) rfl (show decode mX5_isFigureHere.2.1 44 = .ok (.ireturn, 1) by decide +kernel) (by decide) ⟨_, rfl, hR⟩
    · replace hR := hR.2 hc
      refine x_aload_n (pc := 25) (show decode mX5_isFigureHere.2.1 25 = .ok (.aload_n 0, 1) by decide +kernel) rfl rfl ?_
      refine x_getR (pc := 26) f5_9 rfl rfl (show decode mX5_isFigureHere.2.1 26 = .ok (.getfield 9, 3) by decide +kernel) ?_
      refine x_aload_n (pc := 29) (show decode mX5_isFigureHere.2.1 29 = .ok (.aload_n 0, 1) by decide +kernel) rfl rfl ?_
      refine x_getI (pc := 30) (ki := 2) f5_19 rfl rfl (by decide) rfl (show decode mX5_isFigureHere.2.1 30 = .ok (.getfield 19, 3) by decide +kernel) ?_
      obtain ⟨hg, hR⟩ := hR
      refine x_iald (pc := 33) rfl (by decide) hg (show decode mX5_isFigureHere.2.1 33 = .ok (.iaload, 1) by decide +kernel) ?_
      refine x_bipush (pc := 34) (n := 57) (show decode mX5_isFigureHere.2.1 34 = .ok (.bipush 57, 2) by decide +kernel) rfl ?_
      obtain ⟨hg, hR⟩ := hR
      refine x_icmp_gt (pc := 36) (tgt := 43) (show decode mX5_isFigureHere.2.1 36 = .ok (.if_icmp .gt 7, 3) by decide +kernel) (by decide) ⟨hg, (by unfold inI; decide)⟩ (fun hc => ?_) (fun hc => ?_)
      · replace hR := hR.1 hc
        refine x_iconst (pc := 43) (n := 0) (show decode mX5_isFigureHere.2.1 43 = .ok (.iconst 0, 1) by decide +kernel) ?_
        exact x_zret (pc := 44) rfl (show decode mX5_isFigureHere.2.1 44 = .ok (.ireturn, 1) by decide +kernel) (by decide) ⟨_, rfl, hR⟩
      · replace hR := hR.2 hc
        refine x_iconst (pc := 39) (n := 1) (show decode mX5_isFigureHere.2.1 39 = .ok (.iconst 1, 1) by decide +kernel) ?_
        refine x_goto (pc := 40) (tgt := 44) (show decode mX5_isFigureHere.2.1 40 = .ok (.goto 4, 3) by decide +kernel) (by decide) ?_
        exact x_zret (pc := 44) rfl (show decode mX5_isFigureHere.2.1 44 = .ok (.ireturn, 1) by decide +kernel) (by decide) ⟨_, rfl, hR⟩
set_option maxRecDepth 4000 in
theorem sg_X5_readFigure_0 {d : Nat} {h : xH} {Q : Int → xH → Prop}
    (hR : (0 ≤ (h 44 2) ∧ (h 44 2) < 120) ∧ Q ((h 45 (h 44 2)) - 48) (xu h 44 2 ((h 44 2) + 1))) :
    gI wdC d mX5_readFigure 0 [some (.inr (.inr 44)), none] h Q := by
  unfold gI
  refine x_aload_n (pc := 0) (show decode mX5_readFigure.2.1 0 = .ok (.aload_n 0, 1) by decide +kernel) rfl rfl ?_
  refine x_getR (pc := 1) f5_9 rfl rfl (show decode mX5_readFigure.2.1 1 = .ok (.getfield 9, 3) by decide +kernel) ?_
  refine x_aload_n (pc := 4) (show decode mX5_readFigure.2.1 4 = .ok (.aload_n 0, 1) by decide +kernel) rfl rfl ?_
  refine x_getI (pc := 5) (ki := 2) f5_19 rfl rfl (by decide) rfl (show decode mX5_readFigure.2.1 5 = .ok (.getfield 19, 3) by decide +kernel) ?_
  obtain ⟨hg, hR⟩ := hR
  refine x_iald (pc := 8) rfl (by decide) hg (show decode mX5_readFigure.2.1 8 = .ok (.iaload, 1) by decide +kernel) ?_
  refine x_bipush (pc := 9) (n := 48) (show decode mX5_readFigure.2.1 9 = .ok (.bipush 48, 2) by decide +kernel) rfl ?_
  refine x_isub (pc := 11) (show decode mX5_readFigure.2.1 11 = .ok (.isub, 1) by decide +kernel) ?_
  refine x_istore_n (pc := 12) (ls' := [some (.inr (.inr 44)), some (.inl ((h 45 (h 44 2)) - 48))]) (show decode mX5_readFigure.2.1 12 = .ok (.istore_n 1, 1) by decide +kernel) rfl (by decide) rfl ?_
  refine x_aload_n (pc := 13) (show decode mX5_readFigure.2.1 13 = .ok (.aload_n 0, 1) by decide +kernel) rfl rfl ?_
  refine x_dup (pc := 14) (show decode mX5_readFigure.2.1 14 = .ok (.dup, 1) by decide +kernel) rfl ?_
  refine x_getI (pc := 15) (ki := 2) f5_19 rfl rfl (by decide) rfl (show decode mX5_readFigure.2.1 15 = .ok (.getfield 19, 3) by decide +kernel) ?_
  refine x_iconst (pc := 18) (n := 1) (show decode mX5_readFigure.2.1 18 = .ok (.iconst 1, 1) by decide +kernel) ?_
  refine x_iadd (pc := 19) (show decode mX5_readFigure.2.1 19 = .ok (.iadd, 1) by decide +kernel) ?_
  refine x_putI (pc := 20) (ki := 2) f5_19 fp5_2 rfl rfl rfl (show decode mX5_readFigure.2.1 20 = .ok (.putfield 19, 3) by decide +kernel) ?_
  refine x_iload_n (pc := 23) (show decode mX5_readFigure.2.1 23 = .ok (.iload_n 1, 1) by decide +kernel) rfl rfl ?_
  exact x_iret (pc := 24) rfl (show decode mX5_readFigure.2.1 24 = .ok (.ireturn, 1) by decide +kernel) ⟨_, rfl, hR⟩
set_option maxRecDepth 4000 in
theorem sg_X5_skipWord_0 {d : Nat} {h : xH} {Q : xH → Prop}
    (hR : (inI (h 44 2) ∧ inI (h 44 1)) ∧ ((h 44 1) ≤ (h 44 2) → Q h) ∧ ((h 44 2) < (h 44 1) → (0 ≤ (h 44 2) ∧ (h 44 2) < 120) ∧ (inI (h 45 (h 44 2))) ∧ ((h 45 (h 44 2)) < 97 → Q h) ∧ (97 ≤ (h 45 (h 44 2)) → (0 ≤ (h 44 2) ∧ (h 44 2) < 120) ∧ (inI (h 45 (h 44 2))) ∧ (122 < (h 45 (h 44 2)) → Q h) ∧ ((h 45 (h 44 2)) ≤ 122 → gV wdC d mX5_skipWord 0 [some (.inr (.inr 44))] (xu h 44 2 ((h 44 2) + 1)) Q)))) :
    gV wdC d mX5_skipWord 0 [some (.inr (.inr 44))] h Q := by
  unfold gV
  refine x_aload_n (pc := 0) (show decode mX5_skipWord.2.1 0 = .ok (.aload_n 0, 1) by decide +kernel) rfl rfl ?_
  refine x_getI (pc := 1) (ki := 2) f5_19 rfl rfl (by decide) rfl (show decode mX5_skipWord.2.1 1 = .ok (.getfield 19, 3) by decide +kernel) ?_
  refine x_aload_n (pc := 4) (show decode mX5_skipWord.2.1 4 = .ok (.aload_n 0, 1) by decide +kernel) rfl rfl ?_
  refine x_getI (pc := 5) (ki := 1) f5_15 rfl rfl (by decide) rfl (show decode mX5_skipWord.2.1 5 = .ok (.getfield 15, 3) by decide +kernel) ?_
  obtain ⟨hg, hR⟩ := hR
  refine x_icmp_ge (pc := 8) (tgt := 52) (show decode mX5_skipWord.2.1 8 = .ok (.if_icmp .ge 44, 3) by decide +kernel) (by decide) ⟨hg.1, hg.2⟩ (fun hc => ?_) (fun hc => ?_)
  · replace hR := hR.1 hc
    exact x_vret (pc := 52) rfl (show decode mX5_skipWord.2.1 52 = .ok (.return_, 1) by decide +kernel) ⟨rfl, hR⟩
  · replace hR := hR.2 hc
    refine x_aload_n (pc := 11) (show decode mX5_skipWord.2.1 11 = .ok (.aload_n 0, 1) by decide +kernel) rfl rfl ?_
    refine x_getR (pc := 12) f5_9 rfl rfl (show decode mX5_skipWord.2.1 12 = .ok (.getfield 9, 3) by decide +kernel) ?_
    refine x_aload_n (pc := 15) (show decode mX5_skipWord.2.1 15 = .ok (.aload_n 0, 1) by decide +kernel) rfl rfl ?_
    refine x_getI (pc := 16) (ki := 2) f5_19 rfl rfl (by decide) rfl (show decode mX5_skipWord.2.1 16 = .ok (.getfield 19, 3) by decide +kernel) ?_
    obtain ⟨hg, hR⟩ := hR
    refine x_iald (pc := 19) rfl (by decide) hg (show decode mX5_skipWord.2.1 19 = .ok (.iaload, 1) by decide +kernel) ?_
    refine x_bipush (pc := 20) (n := 97) (show decode mX5_skipWord.2.1 20 = .ok (.bipush 97, 2) by decide +kernel) rfl ?_
    obtain ⟨hg, hR⟩ := hR
    refine x_icmp_lt (pc := 22) (tgt := 52) (show decode mX5_skipWord.2.1 22 = .ok (.if_icmp .lt 30, 3) by decide +kernel) (by decide) ⟨hg, (by unfold inI; decide)⟩ (fun hc => ?_) (fun hc => ?_)
    · replace hR := hR.1 hc
      exact x_vret (pc := 52) rfl (show decode mX5_skipWord.2.1 52 = .ok (.return_, 1) by decide +kernel) ⟨rfl, hR⟩
    · replace hR := hR.2 hc
      refine x_aload_n (pc := 25) (show decode mX5_skipWord.2.1 25 = .ok (.aload_n 0, 1) by decide +kernel) rfl rfl ?_
      refine x_getR (pc := 26) f5_9 rfl rfl (show decode mX5_skipWord.2.1 26 = .ok (.getfield 9, 3) by decide +kernel) ?_
      refine x_aload_n (pc := 29) (show decode mX5_skipWord.2.1 29 = .ok (.aload_n 0, 1) by decide +kernel) rfl rfl ?_
      refine x_getI (pc := 30) (ki := 2) f5_19 rfl rfl (by decide) rfl (show decode mX5_skipWord.2.1 30 = .ok (.getfield 19, 3) by decide +kernel) ?_
      obtain ⟨hg, hR⟩ := hR
      refine x_iald (pc := 33) rfl (by decide) hg (show decode mX5_skipWord.2.1 33 = .ok (.iaload, 1) by decide +kernel) ?_
      refine x_bipush (pc := 34) (n := 122) (show decode mX5_skipWord.2.1 34 = .ok (.bipush 122, 2) by decide +kernel) rfl ?_
      obtain ⟨hg, hR⟩ := hR
      refine x_icmp_gt (pc := 36) (tgt := 52) (show decode mX5_skipWord.2.1 36 = .ok (.if_icmp .gt 16, 3) by decide +kernel) (by decide) ⟨hg, (by unfold inI; decide)⟩ (fun hc => ?_) (fun hc => ?_)
      · replace hR := hR.1 hc
        exact x_vret (pc := 52) rfl (show decode mX5_skipWord.2.1 52 = .ok (.return_, 1) by decide +kernel) ⟨rfl, hR⟩
      · replace hR := hR.2 hc
        refine x_aload_n (pc := 39) (show decode mX5_skipWord.2.1 39 = .ok (.aload_n 0, 1) by decide +kernel) rfl rfl ?_
        refine x_dup (pc := 40) (show decode mX5_skipWord.2.1 40 = .ok (.dup, 1) by decide +kernel) rfl ?_
        refine x_getI (pc := 41) (ki := 2) f5_19 rfl rfl (by decide) rfl (show decode mX5_skipWord.2.1 41 = .ok (.getfield 19, 3) by decide +kernel) ?_
        refine x_iconst (pc := 44) (n := 1) (show decode mX5_skipWord.2.1 44 = .ok (.iconst 1, 1) by decide +kernel) ?_
        refine x_iadd (pc := 45) (show decode mX5_skipWord.2.1 45 = .ok (.iadd, 1) by decide +kernel) ?_
        refine x_putI (pc := 46) (ki := 2) f5_19 fp5_2 rfl rfl rfl (show decode mX5_skipWord.2.1 46 = .ok (.putfield 19, 3) by decide +kernel) ?_
        refine x_goto (pc := 49) (tgt := 0) (show decode mX5_skipWord.2.1 49 = .ok (.goto (-49), 3) by decide +kernel) (by decide) ?_
        exact hR
set_option maxRecDepth 4000 in
theorem sg_X5_expect_0 {d : Nat} {x1 : Int} {h : xH} {Q : xH → Prop}
    (hR : (inI (h 44 3)) ∧ ((h 44 3) < 0 → (inI (h 44 2) ∧ inI (h 44 1)) ∧ ((h 44 1) ≤ (h 44 2) → Q (xu h 44 3 (h 44 2))) ∧ ((h 44 2) < (h 44 1) → (0 ≤ (h 44 2) ∧ (h 44 2) < 120) ∧ (inI (h 45 (h 44 2)) ∧ inI x1) ∧ (¬ (h 45 (h 44 2)) = x1 → Q (xu h 44 3 (h 44 2))) ∧ ((h 45 (h 44 2)) = x1 → Q (xu h 44 2 ((h 44 2) + 1))))) ∧ (0 ≤ (h 44 3) → Q h)) :
    gV wdC d mX5_expect 0 [some (.inr (.inr 44)), some (.inl x1)] h Q := by
  unfold gV
  refine x_aload_n (pc := 0) (show decode mX5_expect.2.1 0 = .ok (.aload_n 0, 1) by decide +kernel) rfl rfl ?_
  refine x_getI (pc := 1) (ki := 3) f5_22 rfl rfl (by decide) rfl (show decode mX5_expect.2.1 1 = .ok (.getfield 22, 3) by decide +kernel) ?_
  obtain ⟨hg, hR⟩ := hR
  refine x_if_lt (pc := 4) (tgt := 8) (show decode mX5_expect.2.1 4 = .ok (.ifCond .lt 4, 3) by decide +kernel) (by decide) hg (fun hc => ?_) (fun hc => ?_)
  · replace hR := hR.1 hc
    refine x_aload_n (pc := 8) (show decode mX5_expect.2.1 8 = .ok (.aload_n 0, 1) by decide +kernel) rfl rfl ?_
    refine x_getI (pc := 9) (ki := 2) f5_19 rfl rfl (by decide) rfl (show decode mX5_expect.2.1 9 = .ok (.getfield 19, 3) by decide +kernel) ?_
    refine x_aload_n (pc := 12) (show decode mX5_expect.2.1 12 = .ok (.aload_n 0, 1) by decide +kernel) rfl rfl ?_
    refine x_getI (pc := 13) (ki := 1) f5_15 rfl rfl (by decide) rfl (show decode mX5_expect.2.1 13 = .ok (.getfield 15, 3) by decide +kernel) ?_
    obtain ⟨hg, hR⟩ := hR
    refine x_icmp_ge (pc := 16) (tgt := 45) (show decode mX5_expect.2.1 16 = .ok (.if_icmp .ge 29, 3) by decide +kernel) (by decide) ⟨hg.1, hg.2⟩ (fun hc => ?_) (fun hc => ?_)
    · replace hR := hR.1 hc
      refine x_aload_n (pc := 45) (show decode mX5_expect.2.1 45 = .ok (.aload_n 0, 1) by decide +kernel) rfl rfl ?_
      refine x_aload_n (pc := 46) (show decode mX5_expect.2.1 46 = .ok (.aload_n 0, 1) by decide +kernel) rfl rfl ?_
      refine x_getI (pc := 47) (ki := 2) f5_19 rfl rfl (by decide) rfl (show decode mX5_expect.2.1 47 = .ok (.getfield 19, 3) by decide +kernel) ?_
      refine x_putI (pc := 50) (ki := 3) f5_22 fp5_3 rfl rfl rfl (show decode mX5_expect.2.1 50 = .ok (.putfield 22, 3) by decide +kernel) ?_
      exact x_vret (pc := 53) rfl (show decode mX5_expect.2.1 53 = .ok (.return_, 1) by decide +kernel) ⟨rfl, hR⟩
    · replace hR := hR.2 hc
      refine x_aload_n (pc := 19) (show decode mX5_expect.2.1 19 = .ok (.aload_n 0, 1) by decide +kernel) rfl rfl ?_
      refine x_getR (pc := 20) f5_9 rfl rfl (show decode mX5_expect.2.1 20 = .ok (.getfield 9, 3) by decide +kernel) ?_
      refine x_aload_n (pc := 23) (show decode mX5_expect.2.1 23 = .ok (.aload_n 0, 1) by decide +kernel) rfl rfl ?_
      refine x_getI (pc := 24) (ki := 2) f5_19 rfl rfl (by decide) rfl (show decode mX5_expect.2.1 24 = .ok (.getfield 19, 3) by decide +kernel) ?_
      obtain ⟨hg, hR⟩ := hR
      refine x_iald (pc := 27) rfl (by decide) hg (show decode mX5_expect.2.1 27 = .ok (.iaload, 1) by decide +kernel) ?_
      refine x_iload_n (pc := 28) (show decode mX5_expect.2.1 28 = .ok (.iload_n 1, 1) by decide +kernel) rfl rfl ?_
      obtain ⟨hg, hR⟩ := hR
      refine x_icmp_ne (pc := 29) (tgt := 45) (show decode mX5_expect.2.1 29 = .ok (.if_icmp .ne 16, 3) by decide +kernel) (by decide) ⟨hg.1, hg.2⟩ (fun hc => ?_) (fun hc => ?_)
      · replace hR := hR.1 hc
        refine x_aload_n (pc := 45) (show decode mX5_expect.2.1 45 = .ok (.aload_n 0, 1) by decide +kernel) rfl rfl ?_
        refine x_aload_n (pc := 46) (show decode mX5_expect.2.1 46 = .ok (.aload_n 0, 1) by decide +kernel) rfl rfl ?_
        refine x_getI (pc := 47) (ki := 2) f5_19 rfl rfl (by decide) rfl (show decode mX5_expect.2.1 47 = .ok (.getfield 19, 3) by decide +kernel) ?_
        refine x_putI (pc := 50) (ki := 3) f5_22 fp5_3 rfl rfl rfl (show decode mX5_expect.2.1 50 = .ok (.putfield 22, 3) by decide +kernel) ?_
        exact x_vret (pc := 53) rfl (show decode mX5_expect.2.1 53 = .ok (.return_, 1) by decide +kernel) ⟨rfl, hR⟩
      · replace hR := hR.2 hc
        refine x_aload_n (pc := 32) (show decode mX5_expect.2.1 32 = .ok (.aload_n 0, 1) by decide +kernel) rfl rfl ?_
        refine x_dup (pc := 33) (show decode mX5_expect.2.1 33 = .ok (.dup, 1) by decide +kernel) rfl ?_
        refine x_getI (pc := 34) (ki := 2) f5_19 rfl rfl (by decide) rfl (show decode mX5_expect.2.1 34 = .ok (.getfield 19, 3) by decide +kernel) ?_
        refine x_iconst (pc := 37) (n := 1) (show decode mX5_expect.2.1 37 = .ok (.iconst 1, 1) by decide +kernel) ?_
        refine x_iadd (pc := 38) (show decode mX5_expect.2.1 38 = .ok (.iadd, 1) by decide +kernel) ?_
        refine x_putI (pc := 39) (ki := 2) f5_19 fp5_2 rfl rfl rfl (show decode mX5_expect.2.1 39 = .ok (.putfield 19, 3) by decide +kernel) ?_
        refine x_goto (pc := 42) (tgt := 53) (show decode mX5_expect.2.1 42 = .ok (.goto 11, 3) by decide +kernel) (by decide) ?_
        exact x_vret (pc := 53) rfl (show decode mX5_expect.2.1 53 = .ok (.return_, 1) by decide +kernel) ⟨rfl, hR⟩
  · replace hR := hR.2 hc
    exact x_vret (pc := 7) rfl (show decode mX5_expect.2.1 7 = .ok (.return_, 1) by decide +kernel) ⟨rfl, hR⟩
set_option maxRecDepth 4000 in
theorem sg_X6_gather_0 {d : Nat} {x3 x5 : Int} {h : xH} {Q : Int → xH → Prop}
    (hR : gI wdC d mX6_gather 13 [some (.inr (.inr 32)), some (.inr (.inr 1)), some (.inr (.inr 26)), some (.inr (.inl x3)), none, some (.inr (.inl x5)), none, some (.inl 0)] (xu (xu h 32 0 0) 32 1 1) Q) :
    gI wdC d mX6_gather 0 [some (.inr (.inr 32)), some (.inr (.inr 1)), some (.inr (.inr 26)), some (.inr (.inl x3)), none, some (.inr (.inl x5)), none, none] h Q := by
  unfold gI
  refine x_aload_n (pc := 0) (show decode mX6_gather.2.1 0 = .ok (.aload_n 0, 1) by decide +kernel) rfl rfl ?_
  refine x_iconst (pc := 1) (n := 0) (show decode mX6_gather.2.1 1 = .ok (.iconst 0, 1) by decide +kernel) ?_
  refine x_putI (pc := 2) (ki := 0) f6_9 fp6_0 rfl rfl rfl (show decode mX6_gather.2.1 2 = .ok (.putfield 9, 3) by decide +kernel) ?_
  refine x_aload_n (pc := 5) (show decode mX6_gather.2.1 5 = .ok (.aload_n 0, 1) by decide +kernel) rfl rfl ?_
  refine x_iconst (pc := 6) (n := 1) (show decode mX6_gather.2.1 6 = .ok (.iconst 1, 1) by decide +kernel) ?_
  refine x_putZ (pc := 7) (ki := 1) f6_15 fp6_1 rfl rfl rfl (by decide) (show decode mX6_gather.2.1 7 = .ok (.putfield 15, 3) by decide +kernel) ?_
  refine x_iconst (pc := 10) (n := 0) (show decode mX6_gather.2.1 10 = .ok (.iconst 0, 1) by decide +kernel) ?_
  refine x_istore (pc := 11) (ls' := [some (.inr (.inr 32)), some (.inr (.inr 1)), some (.inr (.inr 26)), some (.inr (.inl x3)), none, some (.inr (.inl x5)), none, some (.inl 0)]) (show decode mX6_gather.2.1 11 = .ok (.istore 7, 2) by decide +kernel) (by decide) rfl ?_
  exact hR
set_option maxRecDepth 4000 in
theorem sg_X6_gather_13 {d : Nat} {x3 x5 x7 : Int} {h : xH} {Q : Int → xH → Prop} (hd : 1 ≤ d)
    (hR : (inI x7 ∧ inI (h 1 2)) ∧ ((h 1 2) ≤ x7 → gI wdC d mX6_gather 106 [some (.inr (.inr 32)), none, some (.inr (.inr 26)), none, none, none, none, some (.inl 0)] h Q) ∧ (x7 < (h 1 2) → cB wdC (d - 1) mX7_hasPin [.inr (.inl x3), .inl x7] h (fun h1 => gI wdC d mX6_gather 13 [some (.inr (.inr 32)), some (.inr (.inr 1)), some (.inr (.inr 26)), some (.inr (.inl x3)), none, some (.inr (.inl x5)), none, some (.inl (x7 + 1))] h1 Q) (fun h1 => (inI (h1 32 0)) ∧ ((h1 32 0) < 12 → (0 ≤ (h1 32 0) ∧ (h1 32 0) < 12) ∧ (0 ≤ x7 ∧ x7 < 30) ∧ (0 ≤ (h1 32 0) ∧ (h1 32 0) < 12) ∧ cB wdC (d - 1) mX7_hasPin [.inr (.inl x5), .inl x7] (xu (xu (xu h1 33 (h1 32 0) x7) 34 (h1 32 0) (h1 3 x7)) 32 0 ((h1 32 0) + 1)) (fun h2 => gI wdC d mX6_gather 13 [some (.inr (.inr 32)), some (.inr (.inr 1)), some (.inr (.inr 26)), some (.inr (.inl x3)), none, some (.inr (.inl x5)), none, some (.inl (x7 + 1))] (xu h2 32 1 0) Q) (fun h2 => gI wdC d mX6_gather 13 [some (.inr (.inr 32)), some (.inr (.inr 1)), some (.inr (.inr 26)), some (.inr (.inl x3)), none, some (.inr (.inl x5)), none, some (.inl (x7 + 1))] h2 Q)) ∧ (12 ≤ (h1 32 0) → Q 0 h1)))) :
    gI wdC d mX6_gather 13 [some (.inr (.inr 32)), some (.inr (.inr 1)), some (.inr (.inr 26)), some (.inr (.inl x3)), none, some (.inr (.inl x5)), none, some (.inl x7)] h Q := by
  unfold gI
  refine x_iload (pc := 13) (show decode mX6_gather.2.1 13 = .ok (.iload 7, 2) by decide +kernel) rfl ?_
  refine x_aload_n (pc := 15) (show decode mX6_gather.2.1 15 = .ok (.aload_n 1, 1) by decide +kernel) rfl rfl ?_
  refine x_getI (pc := 16) (ki := 2) f6_45 rfl rfl (by decide) rfl (show decode mX6_gather.2.1 16 = .ok (.getfield 45, 3) by decide +kernel) ?_
  obtain ⟨hg, hR⟩ := hR
  refine x_icmp_ge (pc := 19) (tgt := 103) (show decode mX6_gather.2.1 19 = .ok (.if_icmp .ge 84, 3) by decide +kernel) (by decide) ⟨hg.1, hg.2⟩ (fun hc => ?_) (fun hc => ?_)
  · replace hR := hR.1 hc
    refine x_iconst (pc := 103) (n := 0) (show decode mX6_gather.2.1 103 = .ok (.iconst 0, 1) by decide +kernel) ?_
    refine x_istore (pc := 104) (ls' := [some (.inr (.inr 32)), some (.inr (.inr 1)), some (.inr (.inr 26)), some (.inr (.inl x3)), none, some (.inr (.inl x5)), none, some (.inl 0)]) (show decode mX6_gather.2.1 104 = .ok (.istore 7, 2) by decide +kernel) (by decide) rfl ?_
    exact x_weak (xle_get (by repeat' constructor)) hR
  · replace hR := hR.2 hc
    refine x_lload_n (pc := 22) (show decode mX6_gather.2.1 22 = .ok (.lload_n 3, 1) by decide +kernel) rfl rfl ?_
    refine x_iload (pc := 23) (show decode mX6_gather.2.1 23 = .ok (.iload 7, 2) by decide +kernel) rfl ?_
    refine x_callSN (pc := 25) (As := [.inr (.inl x3), .inl x7]) (rest := []) (lk6_50 rfl) sm_X7_hasPin (Nat.le_of_ble_eq_true rfl) (Nat.le_of_ble_eq_true rfl) (show decode mX6_gather.2.1 25 = .ok (.invokestatic 50, 3) by decide +kernel) hd hR (fun r9 h1 hq => ?_)
    obtain ⟨r8, rfl, hq⟩ := hq
    rcases hq with ⟨rfl, hR⟩ | ⟨rfl, hR⟩
    · show xG _ _ _ 28 _ [.inl 1] _ _
      refine x_if_eq (pc := 28) (tgt := 34) (show decode mX6_gather.2.1 28 = .ok (.ifCond .eq 6, 3) by decide +kernel) (by decide) (by unfold inI; decide) (fun hc => absurd hc (by decide)) (fun _ => ?_)
      refine x_goto (pc := 31) (tgt := 97) (show decode mX6_gather.2.1 31 = .ok (.goto 66, 3) by decide +kernel) (by decide) ?_
      refine x_iinc (pc := 97) (ls' := [some (.inr (.inr 32)), some (.inr (.inr 1)), some (.inr (.inr 26)), some (.inr (.inl x3)), none, some (.inr (.inl x5)), none, some (.inl (x7 + 1))]) (show decode mX6_gather.2.1 97 = .ok (.iinc 7 1, 3) by decide +kernel) (by decide) rfl rfl ?_
      refine x_goto (pc := 100) (tgt := 13) (show decode mX6_gather.2.1 100 = .ok (.goto (-87), 3) by decide +kernel) (by decide) ?_
      exact hR
    · show xG _ _ _ 28 _ [.inl 0] _ _
      refine x_if_eq (pc := 28) (tgt := 34) (show decode mX6_gather.2.1 28 = .ok (.ifCond .eq 6, 3) by decide +kernel) (by decide) (by unfold inI; decide) (fun _ => ?_) (fun hc => absurd hc (by decide))
      refine x_aload_n (pc := 34) (show decode mX6_gather.2.1 34 = .ok (.aload_n 0, 1) by decide +kernel) rfl rfl ?_
      refine x_getI (pc := 35) (ki := 0) f6_9 rfl rfl (by decide) rfl (show decode mX6_gather.2.1 35 = .ok (.getfield 9, 3) by decide +kernel) ?_
      refine x_bipush (pc := 38) (n := 12) (show decode mX6_gather.2.1 38 = .ok (.bipush 12, 2) by decide +kernel) rfl ?_
      obtain ⟨hg, hR⟩ := hR
      refine x_icmp_lt (pc := 40) (tgt := 45) (show decode mX6_gather.2.1 40 = .ok (.if_icmp .lt 5, 3) by decide +kernel) (by decide) ⟨hg, (by unfold inI; decide)⟩ (fun hc => ?_) (fun hc => ?_)
      · replace hR := hR.1 hc
        refine x_aload_n (pc := 45) (show decode mX6_gather.2.1 45 = .ok (.aload_n 0, 1) by decide +kernel) rfl rfl ?_
        refine x_getR (pc := 46) f6_19 rfl rfl (show decode mX6_gather.2.1 46 = .ok (.getfield 19, 3) by decide +kernel) ?_
        refine x_aload_n (pc := 49) (show decode mX6_gather.2.1 49 = .ok (.aload_n 0, 1) by decide +kernel) rfl rfl ?_
        refine x_getI (pc := 50) (ki := 0) f6_9 rfl rfl (by decide) rfl (show decode mX6_gather.2.1 50 = .ok (.getfield 9, 3) by decide +kernel) ?_
        refine x_iload (pc := 53) (show decode mX6_gather.2.1 53 = .ok (.iload 7, 2) by decide +kernel) rfl ?_
        obtain ⟨hg, hR⟩ := hR
        refine x_iast (pc := 55) rfl (by decide) hg (show decode mX6_gather.2.1 55 = .ok (.iastore, 1) by decide +kernel) ?_
        refine x_aload_n (pc := 56) (show decode mX6_gather.2.1 56 = .ok (.aload_n 0, 1) by decide +kernel) rfl rfl ?_
        refine x_getR (pc := 57) f6_23 rfl rfl (show decode mX6_gather.2.1 57 = .ok (.getfield 23, 3) by decide +kernel) ?_
        refine x_aload_n (pc := 60) (show decode mX6_gather.2.1 60 = .ok (.aload_n 0, 1) by decide +kernel) rfl rfl ?_
        refine x_getI (pc := 61) (ki := 0) f6_9 rfl rfl (by decide) rfl (show decode mX6_gather.2.1 61 = .ok (.getfield 9, 3) by decide +kernel) ?_
        refine x_aload_n (pc := 64) (show decode mX6_gather.2.1 64 = .ok (.aload_n 1, 1) by decide +kernel) rfl rfl ?_
        refine x_getR (pc := 65) f6_54 rfl rfl (show decode mX6_gather.2.1 65 = .ok (.getfield 54, 3) by decide +kernel) ?_
        refine x_iload (pc := 68) (show decode mX6_gather.2.1 68 = .ok (.iload 7, 2) by decide +kernel) rfl ?_
        obtain ⟨hg, hR⟩ := hR
        refine x_iald (pc := 70) rfl (by decide) hg (show decode mX6_gather.2.1 70 = .ok (.iaload, 1) by decide +kernel) ?_
        obtain ⟨hg, hR⟩ := hR
        refine x_iast (pc := 71) rfl (by decide) hg (show decode mX6_gather.2.1 71 = .ok (.iastore, 1) by decide +kernel) ?_
        refine x_aload_n (pc := 72) (show decode mX6_gather.2.1 72 = .ok (.aload_n 0, 1) by decide +kernel) rfl rfl ?_
        refine x_dup (pc := 73) (show decode mX6_gather.2.1 73 = .ok (.dup, 1) by decide +kernel) rfl ?_
        refine x_getI (pc := 74) (ki := 0) f6_9 rfl rfl (by decide) rfl (show decode mX6_gather.2.1 74 = .ok (.getfield 9, 3) by decide +kernel) ?_
        refine x_iconst (pc := 77) (n := 1) (show decode mX6_gather.2.1 77 = .ok (.iconst 1, 1) by decide +kernel) ?_
        refine x_iadd (pc := 78) (show decode mX6_gather.2.1 78 = .ok (.iadd, 1) by decide +kernel) ?_
        refine x_putI (pc := 79) (ki := 0) f6_9 fp6_0 rfl rfl rfl (show decode mX6_gather.2.1 79 = .ok (.putfield 9, 3) by decide +kernel) ?_
        refine x_lload (pc := 82) (show decode mX6_gather.2.1 82 = .ok (.lload 5, 2) by decide +kernel) rfl ?_
        refine x_iload (pc := 84) (show decode mX6_gather.2.1 84 = .ok (.iload 7, 2) by decide +kernel) rfl ?_
        refine x_callSN (pc := 86) (As := [.inr (.inl x5), .inl x7]) (rest := []) (lk6_50 rfl) sm_X7_hasPin (Nat.le_of_ble_eq_true rfl) (Nat.le_of_ble_eq_true rfl) (show decode mX6_gather.2.1 86 = .ok (.invokestatic 50, 3) by decide +kernel) hd hR (fun r9 h2 hq => ?_)
        obtain ⟨r8, rfl, hq⟩ := hq
        rcases hq with ⟨rfl, hR⟩ | ⟨rfl, hR⟩
        · show xG _ _ _ 89 _ [.inl 1] _ _
          refine x_if_eq (pc := 89) (tgt := 97) (show decode mX6_gather.2.1 89 = .ok (.ifCond .eq 8, 3) by decide +kernel) (by decide) (by unfold inI; decide) (fun hc => absurd hc (by decide)) (fun _ => ?_)
          refine x_aload_n (pc := 92) (show decode mX6_gather.2.1 92 = .ok (.aload_n 0, 1) by decide +kernel) rfl rfl ?_
          refine x_iconst (pc := 93) (n := 0) (show decode mX6_gather.2.1 93 = .ok (.iconst 0, 1) by decide +kernel) ?_
          refine x_putZ (pc := 94) (ki := 1) f6_15 fp6_1 rfl rfl rfl (by decide) (show decode mX6_gather.2.1 94 = .ok (.putfield 15, 3) by decide +kernel) ?_
          refine x_iinc (pc := 97) (ls' := [some (.inr (.inr 32)), some (.inr (.inr 1)), some (.inr (.inr 26)), some (.inr (.inl x3)), none, some (.inr (.inl x5)), none, some (.inl (x7 + 1))]) (show decode mX6_gather.2.1 97 = .ok (.iinc 7 1, 3) by decide +kernel) (by decide) rfl rfl ?_
          refine x_goto (pc := 100) (tgt := 13) (show decode mX6_gather.2.1 100 = .ok (.goto (-87), 3) by decide +kernel) (by decide) ?_
          exact hR
        · show xG _ _ _ 89 _ [.inl 0] _ _
          refine x_if_eq (pc := 89) (tgt := 97) (show decode mX6_gather.2.1 89 = .ok (.ifCond .eq 8, 3) by decide +kernel) (by decide) (by unfold inI; decide) (fun _ => ?_) (fun hc => absurd hc (by decide))
          refine x_iinc (pc := 97) (ls' := [some (.inr (.inr 32)), some (.inr (.inr 1)), some (.inr (.inr 26)), some (.inr (.inl x3)), none, some (.inr (.inl x5)), none, some (.inl (x7 + 1))]) (show decode mX6_gather.2.1 97 = .ok (.iinc 7 1, 3) by decide +kernel) (by decide) rfl rfl ?_
          refine x_goto (pc := 100) (tgt := 13) (show decode mX6_gather.2.1 100 = .ok (.goto (-87), 3) by decide +kernel) (by decide) ?_
          exact hR
      · replace hR := hR.2 hc
        refine x_iconst (pc := 43) (n := 0) (show decode mX6_gather.2.1 43 = .ok (.iconst 0, 1) by decide +kernel) ?_
        exact x_zret (pc := 44) rfl (show decode mX6_gather.2.1 44 = .ok (.ireturn, 1) by decide +kernel) (by decide) ⟨_, rfl, hR⟩
set_option maxRecDepth 4000 in
theorem sg_X6_gather_106 {d : Nat} {x7 : Int} {h : xH} {Q : Int → xH → Prop} (hd : 1 ≤ d)
    (hR : (inI x7 ∧ inI (h 32 0)) ∧ ((h 32 0) ≤ x7 → cV wdC (d - 1) mX6_findSets [.inr (.inr 32)] h (fun h1 => Q 1 h1)) ∧ (x7 < (h 32 0) → (0 ≤ x7 ∧ x7 < 12) ∧ (0 ≤ (h 33 x7) ∧ (h 33 x7) < 30) ∧ cI wdC (d - 1) mX6_amongLeft [.inr (.inr 32), .inr (.inl (h 28 (h 33 x7)))] h (fun r3 h2 => (0 ≤ x7 ∧ x7 < 12) ∧ gI wdC d mX6_gather 106 [some (.inr (.inr 32)), none, some (.inr (.inr 26)), none, none, none, none, some (.inl (x7 + 1))] (xu h2 35 x7 r3) Q))) :
    gI wdC d mX6_gather 106 [some (.inr (.inr 32)), none, some (.inr (.inr 26)), none, none, none, none, some (.inl x7)] h Q := by
  unfold gI
  refine x_iload (pc := 106) (show decode mX6_gather.2.1 106 = .ok (.iload 7, 2) by decide +kernel) rfl ?_
  refine x_aload_n (pc := 108) (show decode mX6_gather.2.1 108 = .ok (.aload_n 0, 1) by decide +kernel) rfl rfl ?_
  refine x_getI (pc := 109) (ki := 0) f6_9 rfl rfl (by decide) rfl (show decode mX6_gather.2.1 109 = .ok (.getfield 9, 3) by decide +kernel) ?_
  obtain ⟨hg, hR⟩ := hR
  refine x_icmp_ge (pc := 112) (tgt := 144) (show decode mX6_gather.2.1 112 = .ok (.if_icmp .ge 32, 3) by decide +kernel) (by decide) ⟨hg.1, hg.2⟩ (fun hc => ?_) (fun hc => ?_)
  · replace hR := hR.1 hc
    refine x_aload_n (pc := 144) (show decode mX6_gather.2.1 144 = .ok (.aload_n 0, 1) by decide +kernel) rfl rfl ?_
    refine x_callV (pc := 145) (As := []) (rest := []) (lk6_66 rfl) im_X6_findSets sl_X6_findSets rfl rfl rfl (Nat.le_of_ble_eq_true rfl) (Nat.le_of_ble_eq_true rfl) (show decode mX6_gather.2.1 145 = .ok (.invokevirtual 66, 3) by decide +kernel) hd hR (fun r9 h1 hq => ?_)
    obtain ⟨rfl, hR⟩ := hq
    show xG _ _ _ 148 _ [] _ _
    refine x_iconst (pc := 148) (n := 1) (show decode mX6_gather.2.1 148 = .ok (.iconst 1, 1) by decide +kernel) ?_
    exact x_zret (pc := 149) rfl (show decode mX6_gather.2.1 149 = .ok (.ireturn, 1) by decide +kernel) (by decide) ⟨_, rfl, hR⟩
  · replace hR := hR.2 hc
    refine x_aload_n (pc := 115) (show decode mX6_gather.2.1 115 = .ok (.aload_n 0, 1) by decide +kernel) rfl rfl ?_
    refine x_getR (pc := 116) f6_26 rfl rfl (show decode mX6_gather.2.1 116 = .ok (.getfield 26, 3) by decide +kernel) ?_
    refine x_iload (pc := 119) (show decode mX6_gather.2.1 119 = .ok (.iload 7, 2) by decide +kernel) rfl ?_
    refine x_aload_n (pc := 121) (show decode mX6_gather.2.1 121 = .ok (.aload_n 0, 1) by decide +kernel) rfl rfl ?_
    refine x_aload_n (pc := 122) (show decode mX6_gather.2.1 122 = .ok (.aload_n 2, 1) by decide +kernel) rfl rfl ?_
    refine x_getR (pc := 123) f6_57 rfl rfl (show decode mX6_gather.2.1 123 = .ok (.getfield 57, 3) by decide +kernel) ?_
    refine x_aload_n (pc := 126) (show decode mX6_gather.2.1 126 = .ok (.aload_n 0, 1) by decide +kernel) rfl rfl ?_
    refine x_getR (pc := 127) f6_19 rfl rfl (show decode mX6_gather.2.1 127 = .ok (.getfield 19, 3) by decide +kernel) ?_
    refine x_iload (pc := 130) (show decode mX6_gather.2.1 130 = .ok (.iload 7, 2) by decide +kernel) rfl ?_
    obtain ⟨hg, hR⟩ := hR
    refine x_iald (pc := 132) rfl (by decide) hg (show decode mX6_gather.2.1 132 = .ok (.iaload, 1) by decide +kernel) ?_
    obtain ⟨hg, hR⟩ := hR
    refine x_lald (pc := 133) rfl (by decide) hg (show decode mX6_gather.2.1 133 = .ok (.laload, 1) by decide +kernel) ?_
    refine x_callV (pc := 134) (As := [.inr (.inl (h 28 (h 33 x7)))]) (rest := [.inl x7, .inr (.inr 35)]) (lk6_62 rfl) im_X6_amongLeft sl_X6_amongLeft rfl rfl rfl (Nat.le_of_ble_eq_true rfl) (Nat.le_of_ble_eq_true rfl) (show decode mX6_gather.2.1 134 = .ok (.invokevirtual 62, 3) by decide +kernel) hd hR (fun r9 h2 hq => ?_)
    obtain ⟨r3, rfl, hR⟩ := hq
    show xG _ _ _ 137 _ [.inl r3, .inl x7, .inr (.inr 35)] _ _
    obtain ⟨hg, hR⟩ := hR
    refine x_iast (pc := 137) rfl (by decide) hg (show decode mX6_gather.2.1 137 = .ok (.iastore, 1) by decide +kernel) ?_
    refine x_iinc (pc := 138) (ls' := [some (.inr (.inr 32)), none, some (.inr (.inr 26)), none, none, none, none, some (.inl (x7 + 1))]) (show decode mX6_gather.2.1 138 = .ok (.iinc 7 1, 3) by decide +kernel) (by decide) rfl rfl ?_
    refine x_goto (pc := 141) (tgt := 106) (show decode mX6_gather.2.1 141 = .ok (.goto (-35), 3) by decide +kernel) (by decide) ?_
    exact hR
set_option maxRecDepth 4000 in
theorem sg_X6_amongLeft_0 {d : Nat} {x1 : Int} {h : xH} {Q : Int → xH → Prop}
    (hR : gI wdC d mX6_amongLeft 5 [some (.inr (.inr 32)), some (.inr (.inl x1)), none, some (.inl 0), some (.inl 0)] h Q) :
    gI wdC d mX6_amongLeft 0 [some (.inr (.inr 32)), some (.inr (.inl x1)), none, none, none] h Q := by
  unfold gI
  refine x_iconst (pc := 0) (n := 0) (show decode mX6_amongLeft.2.1 0 = .ok (.iconst 0, 1) by decide +kernel) ?_
  refine x_istore_n (pc := 1) (ls' := [some (.inr (.inr 32)), some (.inr (.inl x1)), none, some (.inl 0), none]) (show decode mX6_amongLeft.2.1 1 = .ok (.istore_n 3, 1) by decide +kernel) rfl (by decide) rfl ?_
  refine x_iconst (pc := 2) (n := 0) (show decode mX6_amongLeft.2.1 2 = .ok (.iconst 0, 1) by decide +kernel) ?_
  refine x_istore (pc := 3) (ls' := [some (.inr (.inr 32)), some (.inr (.inl x1)), none, some (.inl 0), some (.inl 0)]) (show decode mX6_amongLeft.2.1 3 = .ok (.istore 4, 2) by decide +kernel) (by decide) rfl ?_
  exact hR
set_option maxRecDepth 4000 in
theorem sg_X6_amongLeft_5 {d : Nat} {x1 x3 x4 : Int} {h : xH} {Q : Int → xH → Prop} (hd : 1 ≤ d)
    (hR : (inI x4 ∧ inI (h 32 0)) ∧ ((h 32 0) ≤ x4 → Q x3 h) ∧ (x4 < (h 32 0) → (0 ≤ x4 ∧ x4 < 12) ∧ cB wdC (d - 1) mX7_hasPin [.inr (.inl x1), .inl (h 33 x4)] h (fun h1 => (0 ≤ x4 ∧ x4 ≤ 31) ∧ gI wdC d mX6_amongLeft 5 [some (.inr (.inr 32)), some (.inr (.inl x1)), none, some (.inl (xorI x3 (1 * 2 ^ (Int.toNat x4)))), some (.inl (x4 + 1))] h1 Q) (fun h1 => gI wdC d mX6_amongLeft 5 [some (.inr (.inr 32)), some (.inr (.inl x1)), none, some (.inl x3), some (.inl (x4 + 1))] h1 Q))) :
    gI wdC d mX6_amongLeft 5 [some (.inr (.inr 32)), some (.inr (.inl x1)), none, some (.inl x3), some (.inl x4)] h Q := by
  unfold gI
  refine x_iload (pc := 5) (show decode mX6_amongLeft.2.1 5 = .ok (.iload 4, 2) by decide +kernel) rfl ?_
  refine x_aload_n (pc := 7) (show decode mX6_amongLeft.2.1 7 = .ok (.aload_n 0, 1) by decide +kernel) rfl rfl ?_
  refine x_getI (pc := 8) (ki := 0) f6_9 rfl rfl (by decide) rfl (show decode mX6_amongLeft.2.1 8 = .ok (.getfield 9, 3) by decide +kernel) ?_
  obtain ⟨hg, hR⟩ := hR
  refine x_icmp_ge (pc := 11) (tgt := 41) (show decode mX6_amongLeft.2.1 11 = .ok (.if_icmp .ge 30, 3) by decide +kernel) (by decide) ⟨hg.1, hg.2⟩ (fun hc => ?_) (fun hc => ?_)
  · replace hR := hR.1 hc
    refine x_iload_n (pc := 41) (show decode mX6_amongLeft.2.1 41 = .ok (.iload_n 3, 1) by decide +kernel) rfl rfl ?_
    exact x_iret (pc := 42) rfl (show decode mX6_amongLeft.2.1 42 = .ok (.ireturn, 1) by decide +kernel) ⟨_, rfl, hR⟩
  · replace hR := hR.2 hc
    refine x_lload_n (pc := 14) (show decode mX6_amongLeft.2.1 14 = .ok (.lload_n 1, 1) by decide +kernel) rfl rfl ?_
    refine x_aload_n (pc := 15) (show decode mX6_amongLeft.2.1 15 = .ok (.aload_n 0, 1) by decide +kernel) rfl rfl ?_
    refine x_getR (pc := 16) f6_19 rfl rfl (show decode mX6_amongLeft.2.1 16 = .ok (.getfield 19, 3) by decide +kernel) ?_
    refine x_iload (pc := 19) (show decode mX6_amongLeft.2.1 19 = .ok (.iload 4, 2) by decide +kernel) rfl ?_
    obtain ⟨hg, hR⟩ := hR
    refine x_iald (pc := 21) rfl (by decide) hg (show decode mX6_amongLeft.2.1 21 = .ok (.iaload, 1) by decide +kernel) ?_
    refine x_callSN (pc := 22) (As := [.inr (.inl x1), .inl (h 33 x4)]) (rest := []) (lk6_50 rfl) sm_X7_hasPin (Nat.le_of_ble_eq_true rfl) (Nat.le_of_ble_eq_true rfl) (show decode mX6_amongLeft.2.1 22 = .ok (.invokestatic 50, 3) by decide +kernel) hd hR (fun r9 h1 hq => ?_)
    obtain ⟨r8, rfl, hq⟩ := hq
    rcases hq with ⟨rfl, hR⟩ | ⟨rfl, hR⟩
    · show xG _ _ _ 25 _ [.inl 1] _ _
      refine x_if_eq (pc := 25) (tgt := 35) (show decode mX6_amongLeft.2.1 25 = .ok (.ifCond .eq 10, 3) by decide +kernel) (by decide) (by unfold inI; decide) (fun hc => absurd hc (by decide)) (fun _ => ?_)
      refine x_iload_n (pc := 28) (show decode mX6_amongLeft.2.1 28 = .ok (.iload_n 3, 1) by decide +kernel) rfl rfl ?_
      refine x_iconst (pc := 29) (n := 1) (show decode mX6_amongLeft.2.1 29 = .ok (.iconst 1, 1) by decide +kernel) ?_
      refine x_iload (pc := 30) (show decode mX6_amongLeft.2.1 30 = .ok (.iload 4, 2) by decide +kernel) rfl ?_
      obtain ⟨hg, hR⟩ := hR
      refine x_ishl (pc := 32) (show decode mX6_amongLeft.2.1 32 = .ok (.ishl, 1) by decide +kernel) hg ?_
      refine x_ior (pc := 33) (show decode mX6_amongLeft.2.1 33 = .ok (.ior, 1) by decide +kernel) ?_
      refine x_istore_n (pc := 34) (ls' := [some (.inr (.inr 32)), some (.inr (.inl x1)), none, some (.inl (xorI x3 (1 * 2 ^ (Int.toNat x4)))), some (.inl x4)]) (show decode mX6_amongLeft.2.1 34 = .ok (.istore_n 3, 1) by decide +kernel) rfl (by decide) rfl ?_
      refine x_iinc (pc := 35) (ls' := [some (.inr (.inr 32)), some (.inr (.inl x1)), none, some (.inl (xorI x3 (1 * 2 ^ (Int.toNat x4)))), some (.inl (x4 + 1))]) (show decode mX6_amongLeft.2.1 35 = .ok (.iinc 4 1, 3) by decide +kernel) (by decide) rfl rfl ?_
      refine x_goto (pc := 38) (tgt := 5) (show decode mX6_amongLeft.2.1 38 = .ok (.goto (-33), 3) by decide +kernel) (by decide) ?_
      exact hR
    · show xG _ _ _ 25 _ [.inl 0] _ _
      refine x_if_eq (pc := 25) (tgt := 35) (show decode mX6_amongLeft.2.1 25 = .ok (.ifCond .eq 10, 3) by decide +kernel) (by decide) (by unfold inI; decide) (fun _ => ?_) (fun hc => absurd hc (by decide))
      refine x_iinc (pc := 35) (ls' := [some (.inr (.inr 32)), some (.inr (.inl x1)), none, some (.inl x3), some (.inl (x4 + 1))]) (show decode mX6_amongLeft.2.1 35 = .ok (.iinc 4 1, 3) by decide +kernel) (by decide) rfl rfl ?_
      refine x_goto (pc := 38) (tgt := 5) (show decode mX6_amongLeft.2.1 38 = .ok (.goto (-33), 3) by decide +kernel) (by decide) ?_
      exact hR
set_option maxRecDepth 4000 in
theorem sg_X6_comesNext_0 {d : Nat} {x1 x2 : Int} {h : xH} {Q : Int → xH → Prop}
    (hR : (inI x1 ∧ 0 ≤ x2 ∧ x2 ≤ 31) ∧ (inI (xandI (x1 / 2 ^ (Int.toNat x2)) 1)) ∧ (¬ (xandI (x1 / 2 ^ (Int.toNat x2)) 1) = 0 → Q 0 h) ∧ ((xandI (x1 / 2 ^ (Int.toNat x2)) 1) = 0 → (0 ≤ x2 ∧ x2 < 12) ∧ (inI (xandI (h 35 x2) (xxorI x1 (-1)))) ∧ (¬ (xandI (h 35 x2) (xxorI x1 (-1))) = 0 → Q 0 h) ∧ ((xandI (h 35 x2) (xxorI x1 (-1))) = 0 → Q 1 h))) :
    gI wdC d mX6_comesNext 0 [some (.inr (.inr 32)), some (.inl x1), some (.inl x2)] h Q := by
  unfold gI
  refine x_iload_n (pc := 0) (show decode mX6_comesNext.2.1 0 = .ok (.iload_n 1, 1) by decide +kernel) rfl rfl ?_
  refine x_iload_n (pc := 1) (show decode mX6_comesNext.2.1 1 = .ok (.iload_n 2, 1) by decide +kernel) rfl rfl ?_
  obtain ⟨hg, hR⟩ := hR
  refine x_ishr (pc := 2) (show decode mX6_comesNext.2.1 2 = .ok (.ishr, 1) by decide +kernel) hg ?_
  refine x_iconst (pc := 3) (n := 1) (show decode mX6_comesNext.2.1 3 = .ok (.iconst 1, 1) by decide +kernel) ?_
  refine x_iand (pc := 4) (show decode mX6_comesNext.2.1 4 = .ok (.iand, 1) by decide +kernel) ?_
  obtain ⟨hg, hR⟩ := hR
  refine x_if_ne (pc := 5) (tgt := 25) (show decode mX6_comesNext.2.1 5 = .ok (.ifCond .ne 20, 3) by decide +kernel) (by decide) hg (fun hc => ?_) (fun hc => ?_)
  · replace hR := hR.1 hc
    refine x_iconst (pc := 25) (n := 0) (show decode mX6_comesNext.2.1 25 = .ok (.iconst 0, 1) by decide +kernel) ?_
    exact x_zret (pc := 26) rfl (show decode mX6_comesNext.2.1 26 = .ok (.ireturn, 1) by decide +kernel) (by decide) ⟨_, rfl, hR⟩
  · replace hR := hR.2 hc
    refine x_aload_n (pc := 8) (show decode mX6_comesNext.2.1 8 = .ok (.aload_n 0, 1) by decide +kernel) rfl rfl ?_
    refine x_getR (pc := 9) f6_26 rfl rfl (show decode mX6_comesNext.2.1 9 = .ok (.getfield 26, 3) by decide +kernel) ?_
    refine x_iload_n (pc := 12) (show decode mX6_comesNext.2.1 12 = .ok (.iload_n 2, 1) by decide +kernel) rfl rfl ?_
    obtain ⟨hg, hR⟩ := hR
    refine x_iald (pc := 13) rfl (by decide) hg (show decode mX6_comesNext.2.1 13 = .ok (.iaload, 1) by decide +kernel) ?_
    refine x_iload_n (pc := 14) (show decode mX6_comesNext.2.1 14 = .ok (.iload_n 1, 1) by decide +kernel) rfl rfl ?_
    refine x_iconst (pc := 15) (n := (-1)) (show decode mX6_comesNext.2.1 15 = .ok (.iconst (-1), 1) by decide +kernel) ?_
    refine x_ixor (pc := 16) (show decode mX6_comesNext.2.1 16 = .ok (.ixor, 1) by decide +kernel) ?_
    refine x_iand (pc := 17) (show decode mX6_comesNext.2.1 17 = .ok (.iand, 1) by decide +kernel) ?_
    obtain ⟨hg, hR⟩ := hR
    refine x_if_ne (pc := 18) (tgt := 25) (show decode mX6_comesNext.2.1 18 = .ok (.ifCond .ne 7, 3) by decide +kernel) (by decide) hg (fun hc => ?_) (fun hc => ?_)
    · replace hR := hR.1 hc
      refine x_iconst (pc := 25) (n := 0) (show decode mX6_comesNext.2.1 25 = .ok (.iconst 0, 1) by decide +kernel) ?_
      exact x_zret (pc := 26) rfl (show decode mX6_comesNext.2.1 26 = .ok (.ireturn, 1) by decide +kernel) (by decide) ⟨_, rfl, hR⟩
    · replace hR := hR.2 hc
      refine x_iconst (pc := 21) (n := 1) (show decode mX6_comesNext.2.1 21 = .ok (.iconst 1, 1) by decide +kernel) ?_
      refine x_goto (pc := 22) (tgt := 26) (show decode mX6_comesNext.2.1 22 = .ok (.goto 4, 3) by decide +kernel) (by decide) ?_
      exact x_zret (pc := 26) rfl (show decode mX6_comesNext.2.1 26 = .ok (.ireturn, 1) by decide +kernel) (by decide) ⟨_, rfl, hR⟩
set_option maxRecDepth 4000 in
theorem sg_X6_findSets_0 {d : Nat} {h : xH} {Q : xH → Prop} (hd : 1 ≤ d)
    (hR : cV wdC (d - 1) mX6_addSet [.inr (.inr 32), .inl 0] (xu h 32 5 0) (fun h1 => gV wdC d mX6_findSets 12 [some (.inr (.inr 32)), some (.inl 0), none] h1 Q)) :
    gV wdC d mX6_findSets 0 [some (.inr (.inr 32)), none, none] h Q := by
  unfold gV
  refine x_aload_n (pc := 0) (show decode mX6_findSets.2.1 0 = .ok (.aload_n 0, 1) by decide +kernel) rfl rfl ?_
  refine x_iconst (pc := 1) (n := 0) (show decode mX6_findSets.2.1 1 = .ok (.iconst 0, 1) by decide +kernel) ?_
  refine x_putI (pc := 2) (ki := 5) f6_29 fp6_5 rfl rfl rfl (show decode mX6_findSets.2.1 2 = .ok (.putfield 29, 3) by decide +kernel) ?_
  refine x_aload_n (pc := 5) (show decode mX6_findSets.2.1 5 = .ok (.aload_n 0, 1) by decide +kernel) rfl rfl ?_
  refine x_iconst (pc := 6) (n := 0) (show decode mX6_findSets.2.1 6 = .ok (.iconst 0, 1) by decide +kernel) ?_
  refine x_callV (pc := 7) (As := [.inl 0]) (rest := []) (lk6_69 rfl) im_X6_addSet sl_X6_addSet rfl rfl rfl (Nat.le_of_ble_eq_true rfl) (Nat.le_of_ble_eq_true rfl) (show decode mX6_findSets.2.1 7 = .ok (.invokevirtual 69, 3) by decide +kernel) hd hR (fun r9 h1 hq => ?_)
  obtain ⟨rfl, hR⟩ := hq
  show xG _ _ _ 10 _ [] _ _
  refine x_iconst (pc := 10) (n := 0) (show decode mX6_findSets.2.1 10 = .ok (.iconst 0, 1) by decide +kernel) ?_
  refine x_istore_n (pc := 11) (ls' := [some (.inr (.inr 32)), some (.inl 0), none]) (show decode mX6_findSets.2.1 11 = .ok (.istore_n 1, 1) by decide +kernel) rfl (by decide) rfl ?_
  exact hR
set_option maxRecDepth 4000 in
theorem sg_X6_findSets_12 {d : Nat} {x1 : Int} {h : xH} {Q : xH → Prop}
    (hR : (inI x1 ∧ inI (h 32 5)) ∧ ((h 32 5) ≤ x1 → Q h) ∧ (x1 < (h 32 5) → (inI x1) ∧ (729 ≤ x1 → Q h) ∧ (x1 < 729 → gV wdC d mX6_findSets 29 [some (.inr (.inr 32)), some (.inl x1), some (.inl 0)] h Q))) :
    gV wdC d mX6_findSets 12 [some (.inr (.inr 32)), some (.inl x1), none] h Q := by
  unfold gV
  refine x_iload_n (pc := 12) (show decode mX6_findSets.2.1 12 = .ok (.iload_n 1, 1) by decide +kernel) rfl rfl ?_
  refine x_aload_n (pc := 13) (show decode mX6_findSets.2.1 13 = .ok (.aload_n 0, 1) by decide +kernel) rfl rfl ?_
  refine x_getI (pc := 14) (ki := 5) f6_29 rfl rfl (by decide) rfl (show decode mX6_findSets.2.1 14 = .ok (.getfield 29, 3) by decide +kernel) ?_
  obtain ⟨hg, hR⟩ := hR
  refine x_icmp_ge (pc := 17) (tgt := 77) (show decode mX6_findSets.2.1 17 = .ok (.if_icmp .ge 60, 3) by decide +kernel) (by decide) ⟨hg.1, hg.2⟩ (fun hc => ?_) (fun hc => ?_)
  · replace hR := hR.1 hc
    exact x_vret (pc := 77) rfl (show decode mX6_findSets.2.1 77 = .ok (.return_, 1) by decide +kernel) ⟨rfl, hR⟩
  · replace hR := hR.2 hc
    refine x_iload_n (pc := 20) (show decode mX6_findSets.2.1 20 = .ok (.iload_n 1, 1) by decide +kernel) rfl rfl ?_
    refine x_sipush (pc := 21) (n := 729) (show decode mX6_findSets.2.1 21 = .ok (.sipush 729, 3) by decide +kernel) rfl ?_
    obtain ⟨hg, hR⟩ := hR
    refine x_icmp_ge (pc := 24) (tgt := 77) (show decode mX6_findSets.2.1 24 = .ok (.if_icmp .ge 53, 3) by decide +kernel) (by decide) ⟨hg, (by unfold inI; decide)⟩ (fun hc => ?_) (fun hc => ?_)
    · replace hR := hR.1 hc
      exact x_vret (pc := 77) rfl (show decode mX6_findSets.2.1 77 = .ok (.return_, 1) by decide +kernel) ⟨rfl, hR⟩
    · replace hR := hR.2 hc
      refine x_iconst (pc := 27) (n := 0) (show decode mX6_findSets.2.1 27 = .ok (.iconst 0, 1) by decide +kernel) ?_
      refine x_istore_n (pc := 28) (ls' := [some (.inr (.inr 32)), some (.inl x1), some (.inl 0)]) (show decode mX6_findSets.2.1 28 = .ok (.istore_n 2, 1) by decide +kernel) rfl (by decide) rfl ?_
      exact hR
set_option maxRecDepth 4000 in
theorem sg_X6_findSets_29 {d : Nat} {x1 x2 : Int} {h : xH} {Q : xH → Prop} (hd : 1 ≤ d)
    (hR : (inI x2 ∧ inI (h 32 0)) ∧ ((h 32 0) ≤ x2 → gV wdC d mX6_findSets 12 [some (.inr (.inr 32)), some (.inl (x1 + 1)), none] h Q) ∧ (x2 < (h 32 0) → (0 ≤ x1 ∧ x1 < 729) ∧ cB wdC (d - 1) mX6_comesNext [.inr (.inr 32), .inl (h 36 x1), .inl x2] h (fun h1 => (0 ≤ x1 ∧ x1 < 729) ∧ (0 ≤ x2 ∧ x2 ≤ 31) ∧ cV wdC (d - 1) mX6_addSet [.inr (.inr 32), .inl (xorI (h1 36 x1) (1 * 2 ^ (Int.toNat x2)))] h1 (fun h2 => gV wdC d mX6_findSets 29 [some (.inr (.inr 32)), some (.inl x1), some (.inl (x2 + 1))] h2 Q)) (fun h1 => gV wdC d mX6_findSets 29 [some (.inr (.inr 32)), some (.inl x1), some (.inl (x2 + 1))] h1 Q))) :
    gV wdC d mX6_findSets 29 [some (.inr (.inr 32)), some (.inl x1), some (.inl x2)] h Q := by
  unfold gV
  refine x_iload_n (pc := 29) (show decode mX6_findSets.2.1 29 = .ok (.iload_n 2, 1) by decide +kernel) rfl rfl ?_
  refine x_aload_n (pc := 30) (show decode mX6_findSets.2.1 30 = .ok (.aload_n 0, 1) by decide +kernel) rfl rfl ?_
  refine x_getI (pc := 31) (ki := 0) f6_9 rfl rfl (by decide) rfl (show decode mX6_findSets.2.1 31 = .ok (.getfield 9, 3) by decide +kernel) ?_
  obtain ⟨hg, hR⟩ := hR
  refine x_icmp_ge (pc := 34) (tgt := 71) (show decode mX6_findSets.2.1 34 = .ok (.if_icmp .ge 37, 3) by decide +kernel) (by decide) ⟨hg.1, hg.2⟩ (fun hc => ?_) (fun hc => ?_)
  · replace hR := hR.1 hc
    refine x_iinc (pc := 71) (ls' := [some (.inr (.inr 32)), some (.inl (x1 + 1)), some (.inl x2)]) (show decode mX6_findSets.2.1 71 = .ok (.iinc 1 1, 3) by decide +kernel) (by decide) rfl rfl ?_
    refine x_goto (pc := 74) (tgt := 12) (show decode mX6_findSets.2.1 74 = .ok (.goto (-62), 3) by decide +kernel) (by decide) ?_
    exact x_weak (xle_get (by repeat' constructor)) hR
  · replace hR := hR.2 hc
    refine x_aload_n (pc := 37) (show decode mX6_findSets.2.1 37 = .ok (.aload_n 0, 1) by decide +kernel) rfl rfl ?_
    refine x_aload_n (pc := 38) (show decode mX6_findSets.2.1 38 = .ok (.aload_n 0, 1) by decide +kernel) rfl rfl ?_
    refine x_getR (pc := 39) f6_32 rfl rfl (show decode mX6_findSets.2.1 39 = .ok (.getfield 32, 3) by decide +kernel) ?_
    refine x_iload_n (pc := 42) (show decode mX6_findSets.2.1 42 = .ok (.iload_n 1, 1) by decide +kernel) rfl rfl ?_
    obtain ⟨hg, hR⟩ := hR
    refine x_iald (pc := 43) rfl (by decide) hg (show decode mX6_findSets.2.1 43 = .ok (.iaload, 1) by decide +kernel) ?_
    refine x_iload_n (pc := 44) (show decode mX6_findSets.2.1 44 = .ok (.iload_n 2, 1) by decide +kernel) rfl rfl ?_
    refine x_callV (pc := 45) (As := [.inl (h 36 x1), .inl x2]) (rest := []) (lk6_73 rfl) im_X6_comesNext sl_X6_comesNext rfl rfl rfl (Nat.le_of_ble_eq_true rfl) (Nat.le_of_ble_eq_true rfl) (show decode mX6_findSets.2.1 45 = .ok (.invokevirtual 73, 3) by decide +kernel) hd hR (fun r9 h1 hq => ?_)
    obtain ⟨r8, rfl, hq⟩ := hq
    rcases hq with ⟨rfl, hR⟩ | ⟨rfl, hR⟩
    · show xG _ _ _ 48 _ [.inl 1] _ _
      refine x_if_eq (pc := 48) (tgt := 65) (show decode mX6_findSets.2.1 48 = .ok (.ifCond .eq 17, 3) by decide +kernel) (by decide) (by unfold inI; decide) (fun hc => absurd hc (by decide)) (fun _ => ?_)
      refine x_aload_n (pc := 51) (show decode mX6_findSets.2.1 51 = .ok (.aload_n 0, 1) by decide +kernel) rfl rfl ?_
      refine x_aload_n (pc := 52) (show decode mX6_findSets.2.1 52 = .ok (.aload_n 0, 1) by decide +kernel) rfl rfl ?_
      refine x_getR (pc := 53) f6_32 rfl rfl (show decode mX6_findSets.2.1 53 = .ok (.getfield 32, 3) by decide +kernel) ?_
      refine x_iload_n (pc := 56) (show decode mX6_findSets.2.1 56 = .ok (.iload_n 1, 1) by decide +kernel) rfl rfl ?_
      obtain ⟨hg, hR⟩ := hR
      refine x_iald (pc := 57) rfl (by decide) hg (show decode mX6_findSets.2.1 57 = .ok (.iaload, 1) by decide +kernel) ?_
      refine x_iconst (pc := 58) (n := 1) (show decode mX6_findSets.2.1 58 = .ok (.iconst 1, 1) by decide +kernel) ?_
      refine x_iload_n (pc := 59) (show decode mX6_findSets.2.1 59 = .ok (.iload_n 2, 1) by decide +kernel) rfl rfl ?_
      obtain ⟨hg, hR⟩ := hR
      refine x_ishl (pc := 60) (show decode mX6_findSets.2.1 60 = .ok (.ishl, 1) by decide +kernel) hg ?_
      refine x_ior (pc := 61) (show decode mX6_findSets.2.1 61 = .ok (.ior, 1) by decide +kernel) ?_
      refine x_callV (pc := 62) (As := [.inl (xorI (h1 36 x1) (1 * 2 ^ (Int.toNat x2)))]) (rest := []) (lk6_69 rfl) im_X6_addSet sl_X6_addSet rfl rfl rfl (Nat.le_of_ble_eq_true rfl) (Nat.le_of_ble_eq_true rfl) (show decode mX6_findSets.2.1 62 = .ok (.invokevirtual 69, 3) by decide +kernel) hd hR (fun r9 h2 hq => ?_)
      obtain ⟨rfl, hR⟩ := hq
      show xG _ _ _ 65 _ [] _ _
      refine x_iinc (pc := 65) (ls' := [some (.inr (.inr 32)), some (.inl x1), some (.inl (x2 + 1))]) (show decode mX6_findSets.2.1 65 = .ok (.iinc 2 1, 3) by decide +kernel) (by decide) rfl rfl ?_
      refine x_goto (pc := 68) (tgt := 29) (show decode mX6_findSets.2.1 68 = .ok (.goto (-39), 3) by decide +kernel) (by decide) ?_
      exact hR
    · show xG _ _ _ 48 _ [.inl 0] _ _
      refine x_if_eq (pc := 48) (tgt := 65) (show decode mX6_findSets.2.1 48 = .ok (.ifCond .eq 17, 3) by decide +kernel) (by decide) (by unfold inI; decide) (fun _ => ?_) (fun hc => absurd hc (by decide))
      refine x_iinc (pc := 65) (ls' := [some (.inr (.inr 32)), some (.inl x1), some (.inl (x2 + 1))]) (show decode mX6_findSets.2.1 65 = .ok (.iinc 2 1, 3) by decide +kernel) (by decide) rfl rfl ?_
      refine x_goto (pc := 68) (tgt := 29) (show decode mX6_findSets.2.1 68 = .ok (.goto (-39), 3) by decide +kernel) (by decide) ?_
      exact hR
set_option maxRecDepth 4000 in
theorem sg_X6_addSet_0 {d : Nat} {x1 : Int} {h : xH} {Q : xH → Prop}
    (hR : (0 ≤ x1 ∧ x1 < 4096) ∧ (inI (h 54 x1) ∧ inI (h 32 5)) ∧ ((h 32 5) ≤ (h 54 x1) → (inI (h 32 5)) ∧ ((h 32 5) < 729 → (0 ≤ x1 ∧ x1 < 4096) ∧ (0 ≤ (h 32 5) ∧ (h 32 5) < 729) ∧ Q (xu (xu (xu h 54 x1 (h 32 5)) 36 (h 32 5) x1) 32 5 ((h 32 5) + 1))) ∧ (729 ≤ (h 32 5) → Q h)) ∧ ((h 54 x1) < (h 32 5) → (0 ≤ x1 ∧ x1 < 4096) ∧ (0 ≤ (h 54 x1) ∧ (h 54 x1) < 729) ∧ (inI (h 36 (h 54 x1)) ∧ inI x1) ∧ (¬ (h 36 (h 54 x1)) = x1 → (inI (h 32 5)) ∧ ((h 32 5) < 729 → (0 ≤ x1 ∧ x1 < 4096) ∧ (0 ≤ (h 32 5) ∧ (h 32 5) < 729) ∧ Q (xu (xu (xu h 54 x1 (h 32 5)) 36 (h 32 5) x1) 32 5 ((h 32 5) + 1))) ∧ (729 ≤ (h 32 5) → Q h)) ∧ ((h 36 (h 54 x1)) = x1 → Q h))) :
    gV wdC d mX6_addSet 0 [some (.inr (.inr 32)), some (.inl x1)] h Q := by
  unfold gV
  refine x_aload_n (pc := 0) (show decode mX6_addSet.2.1 0 = .ok (.aload_n 0, 1) by decide +kernel) rfl rfl ?_
  refine x_getR (pc := 1) f6_35 rfl rfl (show decode mX6_addSet.2.1 1 = .ok (.getfield 35, 3) by decide +kernel) ?_
  refine x_iload_n (pc := 4) (show decode mX6_addSet.2.1 4 = .ok (.iload_n 1, 1) by decide +kernel) rfl rfl ?_
  obtain ⟨hg, hR⟩ := hR
  refine x_iald (pc := 5) rfl (by decide) hg (show decode mX6_addSet.2.1 5 = .ok (.iaload, 1) by decide +kernel) ?_
  refine x_aload_n (pc := 6) (show decode mX6_addSet.2.1 6 = .ok (.aload_n 0, 1) by decide +kernel) rfl rfl ?_
  refine x_getI (pc := 7) (ki := 5) f6_29 rfl rfl (by decide) rfl (show decode mX6_addSet.2.1 7 = .ok (.getfield 29, 3) by decide +kernel) ?_
  obtain ⟨hg, hR⟩ := hR
  refine x_icmp_ge (pc := 10) (tgt := 29) (show decode mX6_addSet.2.1 10 = .ok (.if_icmp .ge 19, 3) by decide +kernel) (by decide) ⟨hg.1, hg.2⟩ (fun hc => ?_) (fun hc => ?_)
  · replace hR := hR.1 hc
    refine x_aload_n (pc := 29) (show decode mX6_addSet.2.1 29 = .ok (.aload_n 0, 1) by decide +kernel) rfl rfl ?_
    refine x_getI (pc := 30) (ki := 5) f6_29 rfl rfl (by decide) rfl (show decode mX6_addSet.2.1 30 = .ok (.getfield 29, 3) by decide +kernel) ?_
    refine x_sipush (pc := 33) (n := 729) (show decode mX6_addSet.2.1 33 = .ok (.sipush 729, 3) by decide +kernel) rfl ?_
    obtain ⟨hg, hR⟩ := hR
    refine x_icmp_lt (pc := 36) (tgt := 40) (show decode mX6_addSet.2.1 36 = .ok (.if_icmp .lt 4, 3) by decide +kernel) (by decide) ⟨hg, (by unfold inI; decide)⟩ (fun hc => ?_) (fun hc => ?_)
    · replace hR := hR.1 hc
      refine x_aload_n (pc := 40) (show decode mX6_addSet.2.1 40 = .ok (.aload_n 0, 1) by decide +kernel) rfl rfl ?_
      refine x_getR (pc := 41) f6_35 rfl rfl (show decode mX6_addSet.2.1 41 = .ok (.getfield 35, 3) by decide +kernel) ?_
      refine x_iload_n (pc := 44) (show decode mX6_addSet.2.1 44 = .ok (.iload_n 1, 1) by decide +kernel) rfl rfl ?_
      refine x_aload_n (pc := 45) (show decode mX6_addSet.2.1 45 = .ok (.aload_n 0, 1) by decide +kernel) rfl rfl ?_
      refine x_getI (pc := 46) (ki := 5) f6_29 rfl rfl (by decide) rfl (show decode mX6_addSet.2.1 46 = .ok (.getfield 29, 3) by decide +kernel) ?_
      obtain ⟨hg, hR⟩ := hR
      refine x_iast (pc := 49) rfl (by decide) hg (show decode mX6_addSet.2.1 49 = .ok (.iastore, 1) by decide +kernel) ?_
      refine x_aload_n (pc := 50) (show decode mX6_addSet.2.1 50 = .ok (.aload_n 0, 1) by decide +kernel) rfl rfl ?_
      refine x_getR (pc := 51) f6_32 rfl rfl (show decode mX6_addSet.2.1 51 = .ok (.getfield 32, 3) by decide +kernel) ?_
      refine x_aload_n (pc := 54) (show decode mX6_addSet.2.1 54 = .ok (.aload_n 0, 1) by decide +kernel) rfl rfl ?_
      refine x_getI (pc := 55) (ki := 5) f6_29 rfl rfl (by decide) rfl (show decode mX6_addSet.2.1 55 = .ok (.getfield 29, 3) by decide +kernel) ?_
      refine x_iload_n (pc := 58) (show decode mX6_addSet.2.1 58 = .ok (.iload_n 1, 1) by decide +kernel) rfl rfl ?_
      obtain ⟨hg, hR⟩ := hR
      refine x_iast (pc := 59) rfl (by decide) hg (show decode mX6_addSet.2.1 59 = .ok (.iastore, 1) by decide +kernel) ?_
      refine x_aload_n (pc := 60) (show decode mX6_addSet.2.1 60 = .ok (.aload_n 0, 1) by decide +kernel) rfl rfl ?_
      refine x_dup (pc := 61) (show decode mX6_addSet.2.1 61 = .ok (.dup, 1) by decide +kernel) rfl ?_
      refine x_getI (pc := 62) (ki := 5) f6_29 rfl rfl (by decide) rfl (show decode mX6_addSet.2.1 62 = .ok (.getfield 29, 3) by decide +kernel) ?_
      refine x_iconst (pc := 65) (n := 1) (show decode mX6_addSet.2.1 65 = .ok (.iconst 1, 1) by decide +kernel) ?_
      refine x_iadd (pc := 66) (show decode mX6_addSet.2.1 66 = .ok (.iadd, 1) by decide +kernel) ?_
      refine x_putI (pc := 67) (ki := 5) f6_29 fp6_5 rfl rfl rfl (show decode mX6_addSet.2.1 67 = .ok (.putfield 29, 3) by decide +kernel) ?_
      exact x_vret (pc := 70) rfl (show decode mX6_addSet.2.1 70 = .ok (.return_, 1) by decide +kernel) ⟨rfl, hR⟩
    · replace hR := hR.2 hc
      exact x_vret (pc := 39) rfl (show decode mX6_addSet.2.1 39 = .ok (.return_, 1) by decide +kernel) ⟨rfl, hR⟩
  · replace hR := hR.2 hc
    refine x_aload_n (pc := 13) (show decode mX6_addSet.2.1 13 = .ok (.aload_n 0, 1) by decide +kernel) rfl rfl ?_
    refine x_getR (pc := 14) f6_32 rfl rfl (show decode mX6_addSet.2.1 14 = .ok (.getfield 32, 3) by decide +kernel) ?_
    refine x_aload_n (pc := 17) (show decode mX6_addSet.2.1 17 = .ok (.aload_n 0, 1) by decide +kernel) rfl rfl ?_
    refine x_getR (pc := 18) f6_35 rfl rfl (show decode mX6_addSet.2.1 18 = .ok (.getfield 35, 3) by decide +kernel) ?_
    refine x_iload_n (pc := 21) (show decode mX6_addSet.2.1 21 = .ok (.iload_n 1, 1) by decide +kernel) rfl rfl ?_
    obtain ⟨hg, hR⟩ := hR
    refine x_iald (pc := 22) rfl (by decide) hg (show decode mX6_addSet.2.1 22 = .ok (.iaload, 1) by decide +kernel) ?_
    obtain ⟨hg, hR⟩ := hR
    refine x_iald (pc := 23) rfl (by decide) hg (show decode mX6_addSet.2.1 23 = .ok (.iaload, 1) by decide +kernel) ?_
    refine x_iload_n (pc := 24) (show decode mX6_addSet.2.1 24 = .ok (.iload_n 1, 1) by decide +kernel) rfl rfl ?_
    obtain ⟨hg, hR⟩ := hR
    refine x_icmp_ne (pc := 25) (tgt := 29) (show decode mX6_addSet.2.1 25 = .ok (.if_icmp .ne 4, 3) by decide +kernel) (by decide) ⟨hg.1, hg.2⟩ (fun hc => ?_) (fun hc => ?_)
    · replace hR := hR.1 hc
      refine x_aload_n (pc := 29) (show decode mX6_addSet.2.1 29 = .ok (.aload_n 0, 1) by decide +kernel) rfl rfl ?_
      refine x_getI (pc := 30) (ki := 5) f6_29 rfl rfl (by decide) rfl (show decode mX6_addSet.2.1 30 = .ok (.getfield 29, 3) by decide +kernel) ?_
      refine x_sipush (pc := 33) (n := 729) (show decode mX6_addSet.2.1 33 = .ok (.sipush 729, 3) by decide +kernel) rfl ?_
      obtain ⟨hg, hR⟩ := hR
      refine x_icmp_lt (pc := 36) (tgt := 40) (show decode mX6_addSet.2.1 36 = .ok (.if_icmp .lt 4, 3) by decide +kernel) (by decide) ⟨hg, (by unfold inI; decide)⟩ (fun hc => ?_) (fun hc => ?_)
      · replace hR := hR.1 hc
        refine x_aload_n (pc := 40) (show decode mX6_addSet.2.1 40 = .ok (.aload_n 0, 1) by decide +kernel) rfl rfl ?_
        refine x_getR (pc := 41) f6_35 rfl rfl (show decode mX6_addSet.2.1 41 = .ok (.getfield 35, 3) by decide +kernel) ?_
        refine x_iload_n (pc := 44) (show decode mX6_addSet.2.1 44 = .ok (.iload_n 1, 1) by decide +kernel) rfl rfl ?_
        refine x_aload_n (pc := 45) (show decode mX6_addSet.2.1 45 = .ok (.aload_n 0, 1) by decide +kernel) rfl rfl ?_
        refine x_getI (pc := 46) (ki := 5) f6_29 rfl rfl (by decide) rfl (show decode mX6_addSet.2.1 46 = .ok (.getfield 29, 3) by decide +kernel) ?_
        obtain ⟨hg, hR⟩ := hR
        refine x_iast (pc := 49) rfl (by decide) hg (show decode mX6_addSet.2.1 49 = .ok (.iastore, 1) by decide +kernel) ?_
        refine x_aload_n (pc := 50) (show decode mX6_addSet.2.1 50 = .ok (.aload_n 0, 1) by decide +kernel) rfl rfl ?_
        refine x_getR (pc := 51) f6_32 rfl rfl (show decode mX6_addSet.2.1 51 = .ok (.getfield 32, 3) by decide +kernel) ?_
        refine x_aload_n (pc := 54) (show decode mX6_addSet.2.1 54 = .ok (.aload_n 0, 1) by decide +kernel) rfl rfl ?_
        refine x_getI (pc := 55) (ki := 5) f6_29 rfl rfl (by decide) rfl (show decode mX6_addSet.2.1 55 = .ok (.getfield 29, 3) by decide +kernel) ?_
        refine x_iload_n (pc := 58) (show decode mX6_addSet.2.1 58 = .ok (.iload_n 1, 1) by decide +kernel) rfl rfl ?_
        obtain ⟨hg, hR⟩ := hR
        refine x_iast (pc := 59) rfl (by decide) hg (show decode mX6_addSet.2.1 59 = .ok (.iastore, 1) by decide +kernel) ?_
        refine x_aload_n (pc := 60) (show decode mX6_addSet.2.1 60 = .ok (.aload_n 0, 1) by decide +kernel) rfl rfl ?_
        refine x_dup (pc := 61) (show decode mX6_addSet.2.1 61 = .ok (.dup, 1) by decide +kernel) rfl ?_
        refine x_getI (pc := 62) (ki := 5) f6_29 rfl rfl (by decide) rfl (show decode mX6_addSet.2.1 62 = .ok (.getfield 29, 3) by decide +kernel) ?_
        refine x_iconst (pc := 65) (n := 1) (show decode mX6_addSet.2.1 65 = .ok (.iconst 1, 1) by decide +kernel) ?_
        refine x_iadd (pc := 66) (show decode mX6_addSet.2.1 66 = .ok (.iadd, 1) by decide +kernel) ?_
        refine x_putI (pc := 67) (ki := 5) f6_29 fp6_5 rfl rfl rfl (show decode mX6_addSet.2.1 67 = .ok (.putfield 29, 3) by decide +kernel) ?_
        exact x_vret (pc := 70) rfl (show decode mX6_addSet.2.1 70 = .ok (.return_, 1) by decide +kernel) ⟨rfl, hR⟩
      · replace hR := hR.2 hc
        exact x_vret (pc := 39) rfl (show decode mX6_addSet.2.1 39 = .ok (.return_, 1) by decide +kernel) ⟨rfl, hR⟩
    · replace hR := hR.2 hc
      exact x_vret (pc := 28) rfl (show decode mX6_addSet.2.1 28 = .ok (.return_, 1) by decide +kernel) ⟨rfl, hR⟩
set_option maxRecDepth 4000 in
theorem sg_X6_lawfulOrders_0 {d : Nat} {h : xH} {Q : Int → xH → Prop}
    (hR : (inI (h 32 1)) ∧ (¬ (h 32 1) = 0 → (0 ≤ ((h 32 5) - 1) ∧ ((h 32 5) - 1) < 729) ∧ gL wdC d mX6_lawfulOrders 28 [some (.inr (.inr 32)), some (.inl ((h 32 5) - 2)), none, none, none] (xu h 37 ((h 32 5) - 1) 1) Q) ∧ ((h 32 1) = 0 → Q 0 h)) :
    gL wdC d mX6_lawfulOrders 0 [some (.inr (.inr 32)), none, none, none, none] h Q := by
  unfold gL
  refine x_aload_n (pc := 0) (show decode mX6_lawfulOrders.2.1 0 = .ok (.aload_n 0, 1) by decide +kernel) rfl rfl ?_
  refine x_getI (pc := 1) (ki := 1) f6_15 rfl rfl (by decide) rfl (show decode mX6_lawfulOrders.2.1 1 = .ok (.getfield 15, 3) by decide +kernel) ?_
  obtain ⟨hg, hR⟩ := hR
  refine x_if_ne (pc := 4) (tgt := 9) (show decode mX6_lawfulOrders.2.1 4 = .ok (.ifCond .ne 5, 3) by decide +kernel) (by decide) hg (fun hc => ?_) (fun hc => ?_)
  · replace hR := hR.1 hc
    refine x_aload_n (pc := 9) (show decode mX6_lawfulOrders.2.1 9 = .ok (.aload_n 0, 1) by decide +kernel) rfl rfl ?_
    refine x_getR (pc := 10) f6_38 rfl rfl (show decode mX6_lawfulOrders.2.1 10 = .ok (.getfield 38, 3) by decide +kernel) ?_
    refine x_aload_n (pc := 13) (show decode mX6_lawfulOrders.2.1 13 = .ok (.aload_n 0, 1) by decide +kernel) rfl rfl ?_
    refine x_getI (pc := 14) (ki := 5) f6_29 rfl rfl (by decide) rfl (show decode mX6_lawfulOrders.2.1 14 = .ok (.getfield 29, 3) by decide +kernel) ?_
    refine x_iconst (pc := 17) (n := 1) (show decode mX6_lawfulOrders.2.1 17 = .ok (.iconst 1, 1) by decide +kernel) ?_
    refine x_isub (pc := 18) (show decode mX6_lawfulOrders.2.1 18 = .ok (.isub, 1) by decide +kernel) ?_
    refine x_lconst (pc := 19) (v := 1) (show decode mX6_lawfulOrders.2.1 19 = .ok (.lconst 1, 1) by decide +kernel) rfl ?_
    obtain ⟨hg, hR⟩ := hR
    refine x_last (pc := 20) rfl (by decide) hg (show decode mX6_lawfulOrders.2.1 20 = .ok (.lastore, 1) by decide +kernel) ?_
    refine x_aload_n (pc := 21) (show decode mX6_lawfulOrders.2.1 21 = .ok (.aload_n 0, 1) by decide +kernel) rfl rfl ?_
    refine x_getI (pc := 22) (ki := 5) f6_29 rfl rfl (by decide) rfl (show decode mX6_lawfulOrders.2.1 22 = .ok (.getfield 29, 3) by decide +kernel) ?_
    refine x_iconst (pc := 25) (n := 2) (show decode mX6_lawfulOrders.2.1 25 = .ok (.iconst 2, 1) by decide +kernel) ?_
    refine x_isub (pc := 26) (show decode mX6_lawfulOrders.2.1 26 = .ok (.isub, 1) by decide +kernel) ?_
    refine x_istore_n (pc := 27) (ls' := [some (.inr (.inr 32)), some (.inl ((h 32 5) - 2)), none, none, none]) (show decode mX6_lawfulOrders.2.1 27 = .ok (.istore_n 1, 1) by decide +kernel) rfl (by decide) rfl ?_
    exact hR
  · replace hR := hR.2 hc
    refine x_lconst (pc := 7) (v := 0) (show decode mX6_lawfulOrders.2.1 7 = .ok (.lconst 0, 1) by decide +kernel) rfl ?_
    exact x_lret (pc := 8) rfl (show decode mX6_lawfulOrders.2.1 8 = .ok (.lreturn, 1) by decide +kernel) ⟨_, rfl, hR⟩
set_option maxRecDepth 4000 in
theorem sg_X6_lawfulOrders_28 {d : Nat} {x1 : Int} {h : xH} {Q : Int → xH → Prop}
    (hR : (inI x1) ∧ (x1 < 0 → Q (h 37 0) h) ∧ (0 ≤ x1 → gL wdC d mX6_lawfulOrders 37 [some (.inr (.inr 32)), some (.inl x1), some (.inr (.inl 0)), none, some (.inl 0)] h Q)) :
    gL wdC d mX6_lawfulOrders 28 [some (.inr (.inr 32)), some (.inl x1), none, none, none] h Q := by
  unfold gL
  refine x_iload_n (pc := 28) (show decode mX6_lawfulOrders.2.1 28 = .ok (.iload_n 1, 1) by decide +kernel) rfl rfl ?_
  obtain ⟨hg, hR⟩ := hR
  refine x_if_lt (pc := 29) (tgt := 95) (show decode mX6_lawfulOrders.2.1 29 = .ok (.ifCond .lt 66, 3) by decide +kernel) (by decide) hg (fun hc => ?_) (fun hc => ?_)
  · replace hR := hR.1 hc
    refine x_aload_n (pc := 95) (show decode mX6_lawfulOrders.2.1 95 = .ok (.aload_n 0, 1) by decide +kernel) rfl rfl ?_
    refine x_getR (pc := 96) f6_38 rfl rfl (show decode mX6_lawfulOrders.2.1 96 = .ok (.getfield 38, 3) by decide +kernel) ?_
    refine x_iconst (pc := 99) (n := 0) (show decode mX6_lawfulOrders.2.1 99 = .ok (.iconst 0, 1) by decide +kernel) ?_
    refine x_lald (pc := 100) rfl (by decide) (by decide) (show decode mX6_lawfulOrders.2.1 100 = .ok (.laload, 1) by decide +kernel) ?_
    exact x_lret (pc := 101) rfl (show decode mX6_lawfulOrders.2.1 101 = .ok (.lreturn, 1) by decide +kernel) ⟨_, rfl, hR⟩
  · replace hR := hR.2 hc
    refine x_lconst (pc := 32) (v := 0) (show decode mX6_lawfulOrders.2.1 32 = .ok (.lconst 0, 1) by decide +kernel) rfl ?_
    refine x_lstore_n (pc := 33) (ls' := [some (.inr (.inr 32)), some (.inl x1), some (.inr (.inl 0)), none, none]) (show decode mX6_lawfulOrders.2.1 33 = .ok (.lstore_n 2, 1) by decide +kernel) rfl (by decide) rfl ?_
    refine x_iconst (pc := 34) (n := 0) (show decode mX6_lawfulOrders.2.1 34 = .ok (.iconst 0, 1) by decide +kernel) ?_
    refine x_istore (pc := 35) (ls' := [some (.inr (.inr 32)), some (.inl x1), some (.inr (.inl 0)), none, some (.inl 0)]) (show decode mX6_lawfulOrders.2.1 35 = .ok (.istore 4, 2) by decide +kernel) (by decide) rfl ?_
    exact hR
set_option maxRecDepth 4000 in
theorem sg_X6_lawfulOrders_37 {d : Nat} {x1 x2 x4 : Int} {h : xH} {Q : Int → xH → Prop} (hd : 1 ≤ d)
    (hR : (inI x4 ∧ inI (h 32 0)) ∧ ((h 32 0) ≤ x4 → (0 ≤ x1 ∧ x1 < 729) ∧ gL wdC d mX6_lawfulOrders 28 [some (.inr (.inr 32)), some (.inl (x1 + (-1))), none, none, none] (xu h 37 x1 x2) Q) ∧ (x4 < (h 32 0) → (0 ≤ x1 ∧ x1 < 729) ∧ cB wdC (d - 1) mX6_comesNext [.inr (.inr 32), .inl (h 36 x1), .inl x4] h (fun h1 => (0 ≤ x1 ∧ x1 < 729) ∧ cL wdC (d - 1) mX6_waysBy [.inr (.inr 32), .inl (h1 36 x1), .inl x4] h1 (fun r3 h2 => gL wdC d mX6_lawfulOrders 37 [some (.inr (.inr 32)), some (.inl x1), some (.inr (.inl (x2 + r3))), none, some (.inl (x4 + 1))] h2 Q)) (fun h1 => gL wdC d mX6_lawfulOrders 37 [some (.inr (.inr 32)), some (.inl x1), some (.inr (.inl x2)), none, some (.inl (x4 + 1))] h1 Q))) :
    gL wdC d mX6_lawfulOrders 37 [some (.inr (.inr 32)), some (.inl x1), some (.inr (.inl x2)), none, some (.inl x4)] h Q := by
  unfold gL
  refine x_iload (pc := 37) (show decode mX6_lawfulOrders.2.1 37 = .ok (.iload 4, 2) by decide +kernel) rfl ?_
  refine x_aload_n (pc := 39) (show decode mX6_lawfulOrders.2.1 39 = .ok (.aload_n 0, 1) by decide +kernel) rfl rfl ?_
  refine x_getI (pc := 40) (ki := 0) f6_9 rfl rfl (by decide) rfl (show decode mX6_lawfulOrders.2.1 40 = .ok (.getfield 9, 3) by decide +kernel) ?_
  obtain ⟨hg, hR⟩ := hR
  refine x_icmp_ge (pc := 43) (tgt := 82) (show decode mX6_lawfulOrders.2.1 43 = .ok (.if_icmp .ge 39, 3) by decide +kernel) (by decide) ⟨hg.1, hg.2⟩ (fun hc => ?_) (fun hc => ?_)
  · replace hR := hR.1 hc
    refine x_aload_n (pc := 82) (show decode mX6_lawfulOrders.2.1 82 = .ok (.aload_n 0, 1) by decide +kernel) rfl rfl ?_
    refine x_getR (pc := 83) f6_38 rfl rfl (show decode mX6_lawfulOrders.2.1 83 = .ok (.getfield 38, 3) by decide +kernel) ?_
    refine x_iload_n (pc := 86) (show decode mX6_lawfulOrders.2.1 86 = .ok (.iload_n 1, 1) by decide +kernel) rfl rfl ?_
    refine x_lload_n (pc := 87) (show decode mX6_lawfulOrders.2.1 87 = .ok (.lload_n 2, 1) by decide +kernel) rfl rfl ?_
    obtain ⟨hg, hR⟩ := hR
    refine x_last (pc := 88) rfl (by decide) hg (show decode mX6_lawfulOrders.2.1 88 = .ok (.lastore, 1) by decide +kernel) ?_
    refine x_iinc (pc := 89) (ls' := [some (.inr (.inr 32)), some (.inl (x1 + (-1))), some (.inr (.inl x2)), none, some (.inl x4)]) (show decode mX6_lawfulOrders.2.1 89 = .ok (.iinc 1 (-1), 3) by decide +kernel) (by decide) rfl rfl ?_
    refine x_goto (pc := 92) (tgt := 28) (show decode mX6_lawfulOrders.2.1 92 = .ok (.goto (-64), 3) by decide +kernel) (by decide) ?_
    exact x_weak (xle_get (by repeat' constructor)) hR
  · replace hR := hR.2 hc
    refine x_aload_n (pc := 46) (show decode mX6_lawfulOrders.2.1 46 = .ok (.aload_n 0, 1) by decide +kernel) rfl rfl ?_
    refine x_aload_n (pc := 47) (show decode mX6_lawfulOrders.2.1 47 = .ok (.aload_n 0, 1) by decide +kernel) rfl rfl ?_
    refine x_getR (pc := 48) f6_32 rfl rfl (show decode mX6_lawfulOrders.2.1 48 = .ok (.getfield 32, 3) by decide +kernel) ?_
    refine x_iload_n (pc := 51) (show decode mX6_lawfulOrders.2.1 51 = .ok (.iload_n 1, 1) by decide +kernel) rfl rfl ?_
    obtain ⟨hg, hR⟩ := hR
    refine x_iald (pc := 52) rfl (by decide) hg (show decode mX6_lawfulOrders.2.1 52 = .ok (.iaload, 1) by decide +kernel) ?_
    refine x_iload (pc := 53) (show decode mX6_lawfulOrders.2.1 53 = .ok (.iload 4, 2) by decide +kernel) rfl ?_
    refine x_callV (pc := 55) (As := [.inl (h 36 x1), .inl x4]) (rest := []) (lk6_73 rfl) im_X6_comesNext sl_X6_comesNext rfl rfl rfl (Nat.le_of_ble_eq_true rfl) (Nat.le_of_ble_eq_true rfl) (show decode mX6_lawfulOrders.2.1 55 = .ok (.invokevirtual 73, 3) by decide +kernel) hd hR (fun r9 h1 hq => ?_)
    obtain ⟨r8, rfl, hq⟩ := hq
    rcases hq with ⟨rfl, hR⟩ | ⟨rfl, hR⟩
    · show xG _ _ _ 58 _ [.inl 1] _ _
      refine x_if_eq (pc := 58) (tgt := 76) (show decode mX6_lawfulOrders.2.1 58 = .ok (.ifCond .eq 18, 3) by decide +kernel) (by decide) (by unfold inI; decide) (fun hc => absurd hc (by decide)) (fun _ => ?_)
      refine x_lload_n (pc := 61) (show decode mX6_lawfulOrders.2.1 61 = .ok (.lload_n 2, 1) by decide +kernel) rfl rfl ?_
      refine x_aload_n (pc := 62) (show decode mX6_lawfulOrders.2.1 62 = .ok (.aload_n 0, 1) by decide +kernel) rfl rfl ?_
      refine x_aload_n (pc := 63) (show decode mX6_lawfulOrders.2.1 63 = .ok (.aload_n 0, 1) by decide +kernel) rfl rfl ?_
      refine x_getR (pc := 64) f6_32 rfl rfl (show decode mX6_lawfulOrders.2.1 64 = .ok (.getfield 32, 3) by decide +kernel) ?_
      refine x_iload_n (pc := 67) (show decode mX6_lawfulOrders.2.1 67 = .ok (.iload_n 1, 1) by decide +kernel) rfl rfl ?_
      obtain ⟨hg, hR⟩ := hR
      refine x_iald (pc := 68) rfl (by decide) hg (show decode mX6_lawfulOrders.2.1 68 = .ok (.iaload, 1) by decide +kernel) ?_
      refine x_iload (pc := 69) (show decode mX6_lawfulOrders.2.1 69 = .ok (.iload 4, 2) by decide +kernel) rfl ?_
      refine x_callV (pc := 71) (As := [.inl (h1 36 x1), .inl x4]) (rest := [.inr (.inl x2)]) (lk6_77 rfl) im_X6_waysBy sl_X6_waysBy rfl rfl rfl (Nat.le_of_ble_eq_true rfl) (Nat.le_of_ble_eq_true rfl) (show decode mX6_lawfulOrders.2.1 71 = .ok (.invokevirtual 77, 3) by decide +kernel) hd hR (fun r9 h2 hq => ?_)
      obtain ⟨r3, rfl, hR⟩ := hq
      show xG _ _ _ 74 _ [.inr (.inl r3), .inr (.inl x2)] _ _
      refine x_ladd (pc := 74) (show decode mX6_lawfulOrders.2.1 74 = .ok (.ladd, 1) by decide +kernel) ?_
      refine x_lstore_n (pc := 75) (ls' := [some (.inr (.inr 32)), some (.inl x1), some (.inr (.inl (x2 + r3))), none, some (.inl x4)]) (show decode mX6_lawfulOrders.2.1 75 = .ok (.lstore_n 2, 1) by decide +kernel) rfl (by decide) rfl ?_
      refine x_iinc (pc := 76) (ls' := [some (.inr (.inr 32)), some (.inl x1), some (.inr (.inl (x2 + r3))), none, some (.inl (x4 + 1))]) (show decode mX6_lawfulOrders.2.1 76 = .ok (.iinc 4 1, 3) by decide +kernel) (by decide) rfl rfl ?_
      refine x_goto (pc := 79) (tgt := 37) (show decode mX6_lawfulOrders.2.1 79 = .ok (.goto (-42), 3) by decide +kernel) (by decide) ?_
      exact hR
    · show xG _ _ _ 58 _ [.inl 0] _ _
      refine x_if_eq (pc := 58) (tgt := 76) (show decode mX6_lawfulOrders.2.1 58 = .ok (.ifCond .eq 18, 3) by decide +kernel) (by decide) (by unfold inI; decide) (fun _ => ?_) (fun hc => absurd hc (by decide))
      refine x_iinc (pc := 76) (ls' := [some (.inr (.inr 32)), some (.inl x1), some (.inr (.inl x2)), none, some (.inl (x4 + 1))]) (show decode mX6_lawfulOrders.2.1 76 = .ok (.iinc 4 1, 3) by decide +kernel) (by decide) rfl rfl ?_
      refine x_goto (pc := 79) (tgt := 37) (show decode mX6_lawfulOrders.2.1 79 = .ok (.goto (-42), 3) by decide +kernel) (by decide) ?_
      exact hR
set_option maxRecDepth 4000 in
theorem sg_X6_waysBy_0 {d : Nat} {x1 x2 : Int} {h : xH} {Q : Int → xH → Prop}
    (hR : (0 ≤ x2 ∧ x2 ≤ 31) ∧ (0 ≤ (xorI x1 (1 * 2 ^ (Int.toNat x2))) ∧ (xorI x1 (1 * 2 ^ (Int.toNat x2))) < 4096) ∧ (0 ≤ (h 54 (xorI x1 (1 * 2 ^ (Int.toNat x2)))) ∧ (h 54 (xorI x1 (1 * 2 ^ (Int.toNat x2)))) < 729) ∧ Q (h 37 (h 54 (xorI x1 (1 * 2 ^ (Int.toNat x2))))) h) :
    gL wdC d mX6_waysBy 0 [some (.inr (.inr 32)), some (.inl x1), some (.inl x2)] h Q := by
  unfold gL
  refine x_aload_n (pc := 0) (show decode mX6_waysBy.2.1 0 = .ok (.aload_n 0, 1) by decide +kernel) rfl rfl ?_
  refine x_getR (pc := 1) f6_38 rfl rfl (show decode mX6_waysBy.2.1 1 = .ok (.getfield 38, 3) by decide +kernel) ?_
  refine x_aload_n (pc := 4) (show decode mX6_waysBy.2.1 4 = .ok (.aload_n 0, 1) by decide +kernel) rfl rfl ?_
  refine x_getR (pc := 5) f6_35 rfl rfl (show decode mX6_waysBy.2.1 5 = .ok (.getfield 35, 3) by decide +kernel) ?_
  refine x_iload_n (pc := 8) (show decode mX6_waysBy.2.1 8 = .ok (.iload_n 1, 1) by decide +kernel) rfl rfl ?_
  refine x_iconst (pc := 9) (n := 1) (show decode mX6_waysBy.2.1 9 = .ok (.iconst 1, 1) by decide +kernel) ?_
  refine x_iload_n (pc := 10) (show decode mX6_waysBy.2.1 10 = .ok (.iload_n 2, 1) by decide +kernel) rfl rfl ?_
  obtain ⟨hg, hR⟩ := hR
  refine x_ishl (pc := 11) (show decode mX6_waysBy.2.1 11 = .ok (.ishl, 1) by decide +kernel) hg ?_
  refine x_ior (pc := 12) (show decode mX6_waysBy.2.1 12 = .ok (.ior, 1) by decide +kernel) ?_
  obtain ⟨hg, hR⟩ := hR
  refine x_iald (pc := 13) rfl (by decide) hg (show decode mX6_waysBy.2.1 13 = .ok (.iaload, 1) by decide +kernel) ?_
  obtain ⟨hg, hR⟩ := hR
  refine x_lald (pc := 14) rfl (by decide) hg (show decode mX6_waysBy.2.1 14 = .ok (.laload, 1) by decide +kernel) ?_
  exact x_lret (pc := 15) rfl (show decode mX6_waysBy.2.1 15 = .ok (.lreturn, 1) by decide +kernel) ⟨_, rfl, hR⟩
set_option maxRecDepth 4000 in
theorem sg_X6_pinOfOrder_0 {d : Nat} {x1 x3 : Int} {h : xH} {Q : Int → xH → Prop}
    (hR : gI wdC d mX6_pinOfOrder 9 [some (.inr (.inr 32)), some (.inr (.inl x1)), none, some (.inl x3), some (.inl 0), some (.inl 0), some (.inl 0), none, none, none] h Q) :
    gI wdC d mX6_pinOfOrder 0 [some (.inr (.inr 32)), some (.inr (.inl x1)), none, some (.inl x3), none, none, none, none, none, none] h Q := by
  unfold gI
  refine x_iconst (pc := 0) (n := 0) (show decode mX6_pinOfOrder.2.1 0 = .ok (.iconst 0, 1) by decide +kernel) ?_
  refine x_istore (pc := 1) (ls' := [some (.inr (.inr 32)), some (.inr (.inl x1)), none, some (.inl x3), some (.inl 0), none, none, none, none, none]) (show decode mX6_pinOfOrder.2.1 1 = .ok (.istore 4, 2) by decide +kernel) (by decide) rfl ?_
  refine x_iconst (pc := 3) (n := 0) (show decode mX6_pinOfOrder.2.1 3 = .ok (.iconst 0, 1) by decide +kernel) ?_
  refine x_istore (pc := 4) (ls' := [some (.inr (.inr 32)), some (.inr (.inl x1)), none, some (.inl x3), some (.inl 0), some (.inl 0), none, none, none, none]) (show decode mX6_pinOfOrder.2.1 4 = .ok (.istore 5, 2) by decide +kernel) (by decide) rfl ?_
  refine x_iconst (pc := 6) (n := 0) (show decode mX6_pinOfOrder.2.1 6 = .ok (.iconst 0, 1) by decide +kernel) ?_
  refine x_istore (pc := 7) (ls' := [some (.inr (.inr 32)), some (.inr (.inl x1)), none, some (.inl x3), some (.inl 0), some (.inl 0), some (.inl 0), none, none, none]) (show decode mX6_pinOfOrder.2.1 7 = .ok (.istore 6, 2) by decide +kernel) (by decide) rfl ?_
  exact hR
set_option maxRecDepth 4000 in
theorem sg_X6_pinOfOrder_9 {d : Nat} {x1 x3 x4 x5 x6 : Int} {h : xH} {Q : Int → xH → Prop}
    (hR : (inI x6 ∧ inI x3) ∧ (x3 < x6 → (0 ≤ x5 ∧ x5 < 12) ∧ Q (h 33 x5) h) ∧ (x6 ≤ x3 → gI wdC d mX6_pinOfOrder 18 [some (.inr (.inr 32)), some (.inr (.inl x1)), none, some (.inl x3), some (.inl x4), some (.inl x5), some (.inl x6), some (.inl 0), none, none] h Q)) :
    gI wdC d mX6_pinOfOrder 9 [some (.inr (.inr 32)), some (.inr (.inl x1)), none, some (.inl x3), some (.inl x4), some (.inl x5), some (.inl x6), none, none, none] h Q := by
  unfold gI
  refine x_iload (pc := 9) (show decode mX6_pinOfOrder.2.1 9 = .ok (.iload 6, 2) by decide +kernel) rfl ?_
  refine x_iload_n (pc := 11) (show decode mX6_pinOfOrder.2.1 11 = .ok (.iload_n 3, 1) by decide +kernel) rfl rfl ?_
  obtain ⟨hg, hR⟩ := hR
  refine x_icmp_gt (pc := 12) (tgt := 91) (show decode mX6_pinOfOrder.2.1 12 = .ok (.if_icmp .gt 79, 3) by decide +kernel) (by decide) ⟨hg.1, hg.2⟩ (fun hc => ?_) (fun hc => ?_)
  · replace hR := hR.1 hc
    refine x_aload_n (pc := 91) (show decode mX6_pinOfOrder.2.1 91 = .ok (.aload_n 0, 1) by decide +kernel) rfl rfl ?_
    refine x_getR (pc := 92) f6_19 rfl rfl (show decode mX6_pinOfOrder.2.1 92 = .ok (.getfield 19, 3) by decide +kernel) ?_
    refine x_iload (pc := 95) (show decode mX6_pinOfOrder.2.1 95 = .ok (.iload 5, 2) by decide +kernel) rfl ?_
    obtain ⟨hg, hR⟩ := hR
    refine x_iald (pc := 97) rfl (by decide) hg (show decode mX6_pinOfOrder.2.1 97 = .ok (.iaload, 1) by decide +kernel) ?_
    exact x_iret (pc := 98) rfl (show decode mX6_pinOfOrder.2.1 98 = .ok (.ireturn, 1) by decide +kernel) ⟨_, rfl, hR⟩
  · replace hR := hR.2 hc
    refine x_iconst (pc := 15) (n := 0) (show decode mX6_pinOfOrder.2.1 15 = .ok (.iconst 0, 1) by decide +kernel) ?_
    refine x_istore (pc := 16) (ls' := [some (.inr (.inr 32)), some (.inr (.inl x1)), none, some (.inl x3), some (.inl x4), some (.inl x5), some (.inl x6), some (.inl 0), none, none]) (show decode mX6_pinOfOrder.2.1 16 = .ok (.istore 7, 2) by decide +kernel) (by decide) rfl ?_
    exact hR
set_option maxRecDepth 4000 in
theorem sg_X6_pinOfOrder_18 {d : Nat} {x1 x3 x4 x5 x6 x7 : Int} {h : xH} {Q : Int → xH → Prop} (hd : 1 ≤ d)
    (hR : (inI x7 ∧ inI (h 32 0)) ∧ ((h 32 0) ≤ x7 → (0 ≤ x5 ∧ x5 ≤ 31) ∧ gI wdC d mX6_pinOfOrder 9 [some (.inr (.inr 32)), some (.inr (.inl x1)), none, some (.inl x3), some (.inl (xorI x4 (1 * 2 ^ (Int.toNat x5)))), some (.inl x5), some (.inl (x6 + 1)), none, none, none] h Q) ∧ (x7 < (h 32 0) → cB wdC (d - 1) mX6_comesNext [.inr (.inr 32), .inl x4, .inl x7] h (fun h1 => cL wdC (d - 1) mX6_waysBy [.inr (.inr 32), .inl x4, .inl x7] h1 (fun r3 h2 => (inL x1 ∧ inL r3) ∧ (r3 ≤ x1 → gI wdC d mX6_pinOfOrder 18 [some (.inr (.inr 32)), some (.inr (.inl (x1 - r3))), none, some (.inl x3), some (.inl x4), some (.inl x7), some (.inl x6), some (.inl (x7 + 1)), none, none] h2 Q) ∧ (x1 < r3 → (0 ≤ x7 ∧ x7 ≤ 31) ∧ gI wdC d mX6_pinOfOrder 9 [some (.inr (.inr 32)), some (.inr (.inl x1)), none, some (.inl x3), some (.inl (xorI x4 (1 * 2 ^ (Int.toNat x7)))), some (.inl x7), some (.inl (x6 + 1)), none, none, none] h2 Q))) (fun h1 => gI wdC d mX6_pinOfOrder 18 [some (.inr (.inr 32)), some (.inr (.inl x1)), none, some (.inl x3), some (.inl x4), some (.inl x5), some (.inl x6), some (.inl (x7 + 1)), none, none] h1 Q))) :
    gI wdC d mX6_pinOfOrder 18 [some (.inr (.inr 32)), some (.inr (.inl x1)), none, some (.inl x3), some (.inl x4), some (.inl x5), some (.inl x6), some (.inl x7), none, none] h Q := by
  unfold gI
  refine x_iload (pc := 18) (show decode mX6_pinOfOrder.2.1 18 = .ok (.iload 7, 2) by decide +kernel) rfl ?_
  refine x_aload_n (pc := 20) (show decode mX6_pinOfOrder.2.1 20 = .ok (.aload_n 0, 1) by decide +kernel) rfl rfl ?_
  refine x_getI (pc := 21) (ki := 0) f6_9 rfl rfl (by decide) rfl (show decode mX6_pinOfOrder.2.1 21 = .ok (.getfield 9, 3) by decide +kernel) ?_
  obtain ⟨hg, hR⟩ := hR
  refine x_icmp_ge (pc := 24) (tgt := 76) (show decode mX6_pinOfOrder.2.1 24 = .ok (.if_icmp .ge 52, 3) by decide +kernel) (by decide) ⟨hg.1, hg.2⟩ (fun hc => ?_) (fun hc => ?_)
  · replace hR := hR.1 hc
    refine x_iload (pc := 76) (show decode mX6_pinOfOrder.2.1 76 = .ok (.iload 4, 2) by decide +kernel) rfl ?_
    refine x_iconst (pc := 78) (n := 1) (show decode mX6_pinOfOrder.2.1 78 = .ok (.iconst 1, 1) by decide +kernel) ?_
    refine x_iload (pc := 79) (show decode mX6_pinOfOrder.2.1 79 = .ok (.iload 5, 2) by decide +kernel) rfl ?_
    obtain ⟨hg, hR⟩ := hR
    refine x_ishl (pc := 81) (show decode mX6_pinOfOrder.2.1 81 = .ok (.ishl, 1) by decide +kernel) hg ?_
    refine x_ior (pc := 82) (show decode mX6_pinOfOrder.2.1 82 = .ok (.ior, 1) by decide +kernel) ?_
    refine x_istore (pc := 83) (ls' := [some (.inr (.inr 32)), some (.inr (.inl x1)), none, some (.inl x3), some (.inl (xorI x4 (1 * 2 ^ (Int.toNat x5)))), some (.inl x5), some (.inl x6), some (.inl x7), none, none]) (show decode mX6_pinOfOrder.2.1 83 = .ok (.istore 4, 2) by decide +kernel) (by decide) rfl ?_
    refine x_iinc (pc := 85) (ls' := [some (.inr (.inr 32)), some (.inr (.inl x1)), none, some (.inl x3), some (.inl (xorI x4 (1 * 2 ^ (Int.toNat x5)))), some (.inl x5), some (.inl (x6 + 1)), some (.inl x7), none, none]) (show decode mX6_pinOfOrder.2.1 85 = .ok (.iinc 6 1, 3) by decide +kernel) (by decide) rfl rfl ?_
    refine x_goto (pc := 88) (tgt := 9) (show decode mX6_pinOfOrder.2.1 88 = .ok (.goto (-79), 3) by decide +kernel) (by decide) ?_
    exact x_weak (xle_get (by repeat' constructor)) hR
  · replace hR := hR.2 hc
    refine x_aload_n (pc := 27) (show decode mX6_pinOfOrder.2.1 27 = .ok (.aload_n 0, 1) by decide +kernel) rfl rfl ?_
    refine x_iload (pc := 28) (show decode mX6_pinOfOrder.2.1 28 = .ok (.iload 4, 2) by decide +kernel) rfl ?_
    refine x_iload (pc := 30) (show decode mX6_pinOfOrder.2.1 30 = .ok (.iload 7, 2) by decide +kernel) rfl ?_
    refine x_callV (pc := 32) (As := [.inl x4, .inl x7]) (rest := []) (lk6_73 rfl) im_X6_comesNext sl_X6_comesNext rfl rfl rfl (Nat.le_of_ble_eq_true rfl) (Nat.le_of_ble_eq_true rfl) (show decode mX6_pinOfOrder.2.1 32 = .ok (.invokevirtual 73, 3) by decide +kernel) hd hR (fun r9 h1 hq => ?_)
    obtain ⟨r8, rfl, hq⟩ := hq
    rcases hq with ⟨rfl, hR⟩ | ⟨rfl, hR⟩
    · show xG _ _ _ 35 _ [.inl 1] _ _
      refine x_if_ne (pc := 35) (tgt := 41) (show decode mX6_pinOfOrder.2.1 35 = .ok (.ifCond .ne 6, 3) by decide +kernel) (by decide) (by unfold inI; decide) (fun _ => ?_) (fun hc => absurd hc (by decide))
      refine x_iload (pc := 41) (show decode mX6_pinOfOrder.2.1 41 = .ok (.iload 7, 2) by decide +kernel) rfl ?_
      refine x_istore (pc := 43) (ls' := [some (.inr (.inr 32)), some (.inr (.inl x1)), none, some (.inl x3), some (.inl x4), some (.inl x7), some (.inl x6), some (.inl x7), none, none]) (show decode mX6_pinOfOrder.2.1 43 = .ok (.istore 5, 2) by decide +kernel) (by decide) rfl ?_
      refine x_aload_n (pc := 45) (show decode mX6_pinOfOrder.2.1 45 = .ok (.aload_n 0, 1) by decide +kernel) rfl rfl ?_
      refine x_iload (pc := 46) (show decode mX6_pinOfOrder.2.1 46 = .ok (.iload 4, 2) by decide +kernel) rfl ?_
      refine x_iload (pc := 48) (show decode mX6_pinOfOrder.2.1 48 = .ok (.iload 7, 2) by decide +kernel) rfl ?_
      refine x_callV (pc := 50) (As := [.inl x4, .inl x7]) (rest := []) (lk6_77 rfl) im_X6_waysBy sl_X6_waysBy rfl rfl rfl (Nat.le_of_ble_eq_true rfl) (Nat.le_of_ble_eq_true rfl) (show decode mX6_pinOfOrder.2.1 50 = .ok (.invokevirtual 77, 3) by decide +kernel) hd hR (fun r9 h2 hq => ?_)
      obtain ⟨r3, rfl, hR⟩ := hq
      show xG _ _ _ 53 _ [.inr (.inl r3)] _ _
      refine x_lstore (pc := 53) (ls' := [some (.inr (.inr 32)), some (.inr (.inl x1)), none, some (.inl x3), some (.inl x4), some (.inl x7), some (.inl x6), some (.inl x7), some (.inr (.inl r3)), none]) (show decode mX6_pinOfOrder.2.1 53 = .ok (.lstore 8, 2) by decide +kernel) (by decide) rfl ?_
      refine x_lload_n (pc := 55) (show decode mX6_pinOfOrder.2.1 55 = .ok (.lload_n 1, 1) by decide +kernel) rfl rfl ?_
      refine x_lload (pc := 56) (show decode mX6_pinOfOrder.2.1 56 = .ok (.lload 8, 2) by decide +kernel) rfl ?_
      obtain ⟨hg, hR⟩ := hR
      refine x_lcmp (pc := 58) (show decode mX6_pinOfOrder.2.1 58 = .ok (.lcmp, 1) by decide +kernel) ⟨hg.1, hg.2⟩ ?_
      refine x_if_ge (pc := 59) (tgt := 65) (show decode mX6_pinOfOrder.2.1 59 = .ok (.ifCond .ge 6, 3) by decide +kernel) (by decide) (xcmp_in _ _) (fun hc => ?_) (fun hc => ?_)
      · replace hR := hR.1 (xcmp_ge.mp hc)
        refine x_lload_n (pc := 65) (show decode mX6_pinOfOrder.2.1 65 = .ok (.lload_n 1, 1) by decide +kernel) rfl rfl ?_
        refine x_lload (pc := 66) (show decode mX6_pinOfOrder.2.1 66 = .ok (.lload 8, 2) by decide +kernel) rfl ?_
        refine x_lsub (pc := 68) (show decode mX6_pinOfOrder.2.1 68 = .ok (.lsub, 1) by decide +kernel) ?_
        refine x_lstore_n (pc := 69) (ls' := [some (.inr (.inr 32)), some (.inr (.inl (x1 - r3))), none, some (.inl x3), some (.inl x4), some (.inl x7), some (.inl x6), some (.inl x7), some (.inr (.inl r3)), none]) (show decode mX6_pinOfOrder.2.1 69 = .ok (.lstore_n 1, 1) by decide +kernel) rfl (by decide) rfl ?_
        refine x_iinc (pc := 70) (ls' := [some (.inr (.inr 32)), some (.inr (.inl (x1 - r3))), none, some (.inl x3), some (.inl x4), some (.inl x7), some (.inl x6), some (.inl (x7 + 1)), some (.inr (.inl r3)), none]) (show decode mX6_pinOfOrder.2.1 70 = .ok (.iinc 7 1, 3) by decide +kernel) (by decide) rfl rfl ?_
        refine x_goto (pc := 73) (tgt := 18) (show decode mX6_pinOfOrder.2.1 73 = .ok (.goto (-55), 3) by decide +kernel) (by decide) ?_
        exact x_weak (xle_get (by repeat' constructor)) hR
      · replace hR := hR.2 (xcmp_lt.mp hc)
        refine x_goto (pc := 62) (tgt := 76) (show decode mX6_pinOfOrder.2.1 62 = .ok (.goto 14, 3) by decide +kernel) (by decide) ?_
        refine x_iload (pc := 76) (show decode mX6_pinOfOrder.2.1 76 = .ok (.iload 4, 2) by decide +kernel) rfl ?_
        refine x_iconst (pc := 78) (n := 1) (show decode mX6_pinOfOrder.2.1 78 = .ok (.iconst 1, 1) by decide +kernel) ?_
        refine x_iload (pc := 79) (show decode mX6_pinOfOrder.2.1 79 = .ok (.iload 5, 2) by decide +kernel) rfl ?_
        obtain ⟨hg, hR⟩ := hR
        refine x_ishl (pc := 81) (show decode mX6_pinOfOrder.2.1 81 = .ok (.ishl, 1) by decide +kernel) hg ?_
        refine x_ior (pc := 82) (show decode mX6_pinOfOrder.2.1 82 = .ok (.ior, 1) by decide +kernel) ?_
        refine x_istore (pc := 83) (ls' := [some (.inr (.inr 32)), some (.inr (.inl x1)), none, some (.inl x3), some (.inl (xorI x4 (1 * 2 ^ (Int.toNat x7)))), some (.inl x7), some (.inl x6), some (.inl x7), some (.inr (.inl r3)), none]) (show decode mX6_pinOfOrder.2.1 83 = .ok (.istore 4, 2) by decide +kernel) (by decide) rfl ?_
        refine x_iinc (pc := 85) (ls' := [some (.inr (.inr 32)), some (.inr (.inl x1)), none, some (.inl x3), some (.inl (xorI x4 (1 * 2 ^ (Int.toNat x7)))), some (.inl x7), some (.inl (x6 + 1)), some (.inl x7), some (.inr (.inl r3)), none]) (show decode mX6_pinOfOrder.2.1 85 = .ok (.iinc 6 1, 3) by decide +kernel) (by decide) rfl rfl ?_
        refine x_goto (pc := 88) (tgt := 9) (show decode mX6_pinOfOrder.2.1 88 = .ok (.goto (-79), 3) by decide +kernel) (by decide) ?_
        exact x_weak (xle_get (by repeat' constructor)) hR
    · show xG _ _ _ 35 _ [.inl 0] _ _
      refine x_if_ne (pc := 35) (tgt := 41) (show decode mX6_pinOfOrder.2.1 35 = .ok (.ifCond .ne 6, 3) by decide +kernel) (by decide) (by unfold inI; decide) (fun hc => absurd hc (by decide)) (fun _ => ?_)
      refine x_goto (pc := 38) (tgt := 70) (show decode mX6_pinOfOrder.2.1 38 = .ok (.goto 32, 3) by decide +kernel) (by decide) ?_
      refine x_iinc (pc := 70) (ls' := [some (.inr (.inr 32)), some (.inr (.inl x1)), none, some (.inl x3), some (.inl x4), some (.inl x5), some (.inl x6), some (.inl (x7 + 1)), none, none]) (show decode mX6_pinOfOrder.2.1 70 = .ok (.iinc 7 1, 3) by decide +kernel) (by decide) rfl rfl ?_
      refine x_goto (pc := 73) (tgt := 18) (show decode mX6_pinOfOrder.2.1 73 = .ok (.goto (-55), 3) by decide +kernel) (by decide) ?_
      exact hR
set_option maxRecDepth 4000 in
theorem sg_X6_leastTravel_0 {d : Nat} {x1 : Int} {h : xH} {Q : Int → xH → Prop}
    (hR : gI wdC d mX6_leastTravel 7 [some (.inr (.inr 32)), some (.inl x1), some (.inl ((h 32 5) - 1)), none] h Q) :
    gI wdC d mX6_leastTravel 0 [some (.inr (.inr 32)), some (.inl x1), none, none] h Q := by
  unfold gI
  refine x_aload_n (pc := 0) (show decode mX6_leastTravel.2.1 0 = .ok (.aload_n 0, 1) by decide +kernel) rfl rfl ?_
  refine x_getI (pc := 1) (ki := 5) f6_29 rfl rfl (by decide) rfl (show decode mX6_leastTravel.2.1 1 = .ok (.getfield 29, 3) by decide +kernel) ?_
  refine x_iconst (pc := 4) (n := 1) (show decode mX6_leastTravel.2.1 4 = .ok (.iconst 1, 1) by decide +kernel) ?_
  refine x_isub (pc := 5) (show decode mX6_leastTravel.2.1 5 = .ok (.isub, 1) by decide +kernel) ?_
  refine x_istore_n (pc := 6) (ls' := [some (.inr (.inr 32)), some (.inl x1), some (.inl ((h 32 5) - 1)), none]) (show decode mX6_leastTravel.2.1 6 = .ok (.istore_n 2, 1) by decide +kernel) rfl (by decide) rfl ?_
  exact hR
set_option maxRecDepth 4000 in
theorem sg_X6_leastTravel_7 {d : Nat} {x1 x2 : Int} {h : xH} {Q : Int → xH → Prop} (hd : 1 ≤ d)
    (hR : (inI x2) ∧ (x2 ≤ 0 → cI wdC (d - 1) mX6_leastFrom [.inr (.inr 32), .inl 0, .inl x1] h (fun r2 h1 => Q r2 h1)) ∧ (0 < x2 → gI wdC d mX6_leastTravel 13 [some (.inr (.inr 32)), some (.inl x1), some (.inl x2), some (.inl 0)] h Q)) :
    gI wdC d mX6_leastTravel 7 [some (.inr (.inr 32)), some (.inl x1), some (.inl x2), none] h Q := by
  unfold gI
  refine x_iload_n (pc := 7) (show decode mX6_leastTravel.2.1 7 = .ok (.iload_n 2, 1) by decide +kernel) rfl rfl ?_
  obtain ⟨hg, hR⟩ := hR
  refine x_if_le (pc := 8) (tgt := 76) (show decode mX6_leastTravel.2.1 8 = .ok (.ifCond .le 68, 3) by decide +kernel) (by decide) hg (fun hc => ?_) (fun hc => ?_)
  · replace hR := hR.1 hc
    refine x_aload_n (pc := 76) (show decode mX6_leastTravel.2.1 76 = .ok (.aload_n 0, 1) by decide +kernel) rfl rfl ?_
    refine x_iconst (pc := 77) (n := 0) (show decode mX6_leastTravel.2.1 77 = .ok (.iconst 0, 1) by decide +kernel) ?_
    refine x_iload_n (pc := 78) (show decode mX6_leastTravel.2.1 78 = .ok (.iload_n 1, 1) by decide +kernel) rfl rfl ?_
    refine x_callV (pc := 79) (As := [.inl 0, .inl x1]) (rest := []) (lk6_81 rfl) im_X6_leastFrom sl_X6_leastFrom rfl rfl rfl (Nat.le_of_ble_eq_true rfl) (Nat.le_of_ble_eq_true rfl) (show decode mX6_leastTravel.2.1 79 = .ok (.invokevirtual 81, 3) by decide +kernel) hd hR (fun r9 h1 hq => ?_)
    obtain ⟨r2, rfl, hR⟩ := hq
    show xG _ _ _ 82 _ [.inl r2] _ _
    exact x_iret (pc := 82) rfl (show decode mX6_leastTravel.2.1 82 = .ok (.ireturn, 1) by decide +kernel) ⟨_, rfl, hR⟩
  · replace hR := hR.2 hc
    refine x_iconst (pc := 11) (n := 0) (show decode mX6_leastTravel.2.1 11 = .ok (.iconst 0, 1) by decide +kernel) ?_
    refine x_istore_n (pc := 12) (ls' := [some (.inr (.inr 32)), some (.inl x1), some (.inl x2), some (.inl 0)]) (show decode mX6_leastTravel.2.1 12 = .ok (.istore_n 3, 1) by decide +kernel) rfl (by decide) rfl ?_
    exact hR
set_option maxRecDepth 4000 in
theorem sg_X6_leastTravel_13 {d : Nat} {x1 x2 x3 : Int} {h : xH} {Q : Int → xH → Prop} (hd : 1 ≤ d)
    (hR : (inI x3 ∧ inI (h 32 0)) ∧ ((h 32 0) ≤ x3 → gI wdC d mX6_leastTravel 7 [some (.inr (.inr 32)), some (.inl x1), some (.inl (x2 + (-1))), none] h Q) ∧ (x3 < (h 32 0) → (0 ≤ x2 ∧ x2 < 729) ∧ (inI (h 36 x2) ∧ 0 ≤ x3 ∧ x3 ≤ 31) ∧ (inI (xandI ((h 36 x2) / 2 ^ (Int.toNat x3)) 1)) ∧ (¬ (xandI ((h 36 x2) / 2 ^ (Int.toNat x3)) 1) = 0 → (0 ≤ x2 ∧ x2 < 729) ∧ (0 ≤ x3 ∧ x3 < 12) ∧ cI wdC (d - 1) mX6_leastFrom [.inr (.inr 32), .inl (h 36 x2), .inl (h 34 x3)] h (fun r2 h1 => (0 ≤ ((x2 * 12) + x3) ∧ ((x2 * 12) + x3) < 8748) ∧ gI wdC d mX6_leastTravel 13 [some (.inr (.inr 32)), some (.inl x1), some (.inl x2), some (.inl (x3 + 1))] (xu h1 38 ((x2 * 12) + x3) r2) Q)) ∧ ((xandI ((h 36 x2) / 2 ^ (Int.toNat x3)) 1) = 0 → gI wdC d mX6_leastTravel 13 [some (.inr (.inr 32)), some (.inl x1), some (.inl x2), some (.inl (x3 + 1))] h Q))) :
    gI wdC d mX6_leastTravel 13 [some (.inr (.inr 32)), some (.inl x1), some (.inl x2), some (.inl x3)] h Q := by
  unfold gI
  refine x_iload_n (pc := 13) (show decode mX6_leastTravel.2.1 13 = .ok (.iload_n 3, 1) by decide +kernel) rfl rfl ?_
  refine x_aload_n (pc := 14) (show decode mX6_leastTravel.2.1 14 = .ok (.aload_n 0, 1) by decide +kernel) rfl rfl ?_
  refine x_getI (pc := 15) (ki := 0) f6_9 rfl rfl (by decide) rfl (show decode mX6_leastTravel.2.1 15 = .ok (.getfield 9, 3) by decide +kernel) ?_
  obtain ⟨hg, hR⟩ := hR
  refine x_icmp_ge (pc := 18) (tgt := 70) (show decode mX6_leastTravel.2.1 18 = .ok (.if_icmp .ge 52, 3) by decide +kernel) (by decide) ⟨hg.1, hg.2⟩ (fun hc => ?_) (fun hc => ?_)
  · replace hR := hR.1 hc
    refine x_iinc (pc := 70) (ls' := [some (.inr (.inr 32)), some (.inl x1), some (.inl (x2 + (-1))), some (.inl x3)]) (show decode mX6_leastTravel.2.1 70 = .ok (.iinc 2 (-1), 3) by decide +kernel) (by decide) rfl rfl ?_
    refine x_goto (pc := 73) (tgt := 7) (show decode mX6_leastTravel.2.1 73 = .ok (.goto (-66), 3) by decide +kernel) (by decide) ?_
    exact x_weak (xle_get (by repeat' constructor)) hR
  · replace hR := hR.2 hc
    refine x_aload_n (pc := 21) (show decode mX6_leastTravel.2.1 21 = .ok (.aload_n 0, 1) by decide +kernel) rfl rfl ?_
    refine x_getR (pc := 22) f6_32 rfl rfl (show decode mX6_leastTravel.2.1 22 = .ok (.getfield 32, 3) by decide +kernel) ?_
    refine x_iload_n (pc := 25) (show decode mX6_leastTravel.2.1 25 = .ok (.iload_n 2, 1) by decide +kernel) rfl rfl ?_
    obtain ⟨hg, hR⟩ := hR
    refine x_iald (pc := 26) rfl (by decide) hg (show decode mX6_leastTravel.2.1 26 = .ok (.iaload, 1) by decide +kernel) ?_
    refine x_iload_n (pc := 27) (show decode mX6_leastTravel.2.1 27 = .ok (.iload_n 3, 1) by decide +kernel) rfl rfl ?_
    obtain ⟨hg, hR⟩ := hR
    refine x_ishr (pc := 28) (show decode mX6_leastTravel.2.1 28 = .ok (.ishr, 1) by decide +kernel) hg ?_
    refine x_iconst (pc := 29) (n := 1) (show decode mX6_leastTravel.2.1 29 = .ok (.iconst 1, 1) by decide +kernel) ?_
    refine x_iand (pc := 30) (show decode mX6_leastTravel.2.1 30 = .ok (.iand, 1) by decide +kernel) ?_
    obtain ⟨hg, hR⟩ := hR
    refine x_if_ne (pc := 31) (tgt := 37) (show decode mX6_leastTravel.2.1 31 = .ok (.ifCond .ne 6, 3) by decide +kernel) (by decide) hg (fun hc => ?_) (fun hc => ?_)
    · replace hR := hR.1 hc
      refine x_aload_n (pc := 37) (show decode mX6_leastTravel.2.1 37 = .ok (.aload_n 0, 1) by decide +kernel) rfl rfl ?_
      refine x_getR (pc := 38) f6_42 rfl rfl (show decode mX6_leastTravel.2.1 38 = .ok (.getfield 42, 3) by decide +kernel) ?_
      refine x_iload_n (pc := 41) (show decode mX6_leastTravel.2.1 41 = .ok (.iload_n 2, 1) by decide +kernel) rfl rfl ?_
      refine x_bipush (pc := 42) (n := 12) (show decode mX6_leastTravel.2.1 42 = .ok (.bipush 12, 2) by decide +kernel) rfl ?_
      refine x_imul (pc := 44) (show decode mX6_leastTravel.2.1 44 = .ok (.imul, 1) by decide +kernel) ?_
      refine x_iload_n (pc := 45) (show decode mX6_leastTravel.2.1 45 = .ok (.iload_n 3, 1) by decide +kernel) rfl rfl ?_
      refine x_iadd (pc := 46) (show decode mX6_leastTravel.2.1 46 = .ok (.iadd, 1) by decide +kernel) ?_
      refine x_aload_n (pc := 47) (show decode mX6_leastTravel.2.1 47 = .ok (.aload_n 0, 1) by decide +kernel) rfl rfl ?_
      refine x_aload_n (pc := 48) (show decode mX6_leastTravel.2.1 48 = .ok (.aload_n 0, 1) by decide +kernel) rfl rfl ?_
      refine x_getR (pc := 49) f6_32 rfl rfl (show decode mX6_leastTravel.2.1 49 = .ok (.getfield 32, 3) by decide +kernel) ?_
      refine x_iload_n (pc := 52) (show decode mX6_leastTravel.2.1 52 = .ok (.iload_n 2, 1) by decide +kernel) rfl rfl ?_
      obtain ⟨hg, hR⟩ := hR
      refine x_iald (pc := 53) rfl (by decide) hg (show decode mX6_leastTravel.2.1 53 = .ok (.iaload, 1) by decide +kernel) ?_
      refine x_aload_n (pc := 54) (show decode mX6_leastTravel.2.1 54 = .ok (.aload_n 0, 1) by decide +kernel) rfl rfl ?_
      refine x_getR (pc := 55) f6_23 rfl rfl (show decode mX6_leastTravel.2.1 55 = .ok (.getfield 23, 3) by decide +kernel) ?_
      refine x_iload_n (pc := 58) (show decode mX6_leastTravel.2.1 58 = .ok (.iload_n 3, 1) by decide +kernel) rfl rfl ?_
      obtain ⟨hg, hR⟩ := hR
      refine x_iald (pc := 59) rfl (by decide) hg (show decode mX6_leastTravel.2.1 59 = .ok (.iaload, 1) by decide +kernel) ?_
      refine x_callV (pc := 60) (As := [.inl (h 36 x2), .inl (h 34 x3)]) (rest := [.inl ((x2 * 12) + x3), .inr (.inr 38)]) (lk6_81 rfl) im_X6_leastFrom sl_X6_leastFrom rfl rfl rfl (Nat.le_of_ble_eq_true rfl) (Nat.le_of_ble_eq_true rfl) (show decode mX6_leastTravel.2.1 60 = .ok (.invokevirtual 81, 3) by decide +kernel) hd hR (fun r9 h1 hq => ?_)
      obtain ⟨r2, rfl, hR⟩ := hq
      show xG _ _ _ 63 _ [.inl r2, .inl ((x2 * 12) + x3), .inr (.inr 38)] _ _
      obtain ⟨hg, hR⟩ := hR
      refine x_iast (pc := 63) rfl (by decide) hg (show decode mX6_leastTravel.2.1 63 = .ok (.iastore, 1) by decide +kernel) ?_
      refine x_iinc (pc := 64) (ls' := [some (.inr (.inr 32)), some (.inl x1), some (.inl x2), some (.inl (x3 + 1))]) (show decode mX6_leastTravel.2.1 64 = .ok (.iinc 3 1, 3) by decide +kernel) (by decide) rfl rfl ?_
      refine x_goto (pc := 67) (tgt := 13) (show decode mX6_leastTravel.2.1 67 = .ok (.goto (-54), 3) by decide +kernel) (by decide) ?_
      exact hR
    · replace hR := hR.2 hc
      refine x_goto (pc := 34) (tgt := 64) (show decode mX6_leastTravel.2.1 34 = .ok (.goto 30, 3) by decide +kernel) (by decide) ?_
      refine x_iinc (pc := 64) (ls' := [some (.inr (.inr 32)), some (.inl x1), some (.inl x2), some (.inl (x3 + 1))]) (show decode mX6_leastTravel.2.1 64 = .ok (.iinc 3 1, 3) by decide +kernel) (by decide) rfl rfl ?_
      refine x_goto (pc := 67) (tgt := 13) (show decode mX6_leastTravel.2.1 67 = .ok (.goto (-54), 3) by decide +kernel) (by decide) ?_
      exact hR
set_option maxRecDepth 4000 in
theorem sg_X6_travelBy_0 {d : Nat} {x1 x2 x3 : Int} {h : xH} {Q : Int → xH → Prop} (hd : 1 ≤ d)
    (hR : (0 ≤ x3 ∧ x3 ≤ 31) ∧ (0 ≤ (xorI x1 (1 * 2 ^ (Int.toNat x3))) ∧ (xorI x1 (1 * 2 ^ (Int.toNat x3))) < 4096) ∧ (0 ≤ x3 ∧ x3 < 12) ∧ (inI (x2 - (h 34 x3))) ∧ (0 ≤ (((h 54 (xorI x1 (1 * 2 ^ (Int.toNat x3)))) * 12) + x3) ∧ (((h 54 (xorI x1 (1 * 2 ^ (Int.toNat x3)))) * 12) + x3) < 8748) ∧ Q ((max (x2 - (h 34 x3)) (-(x2 - (h 34 x3)))) + (h 38 (((h 54 (xorI x1 (1 * 2 ^ (Int.toNat x3)))) * 12) + x3))) h) :
    gI wdC d mX6_travelBy 0 [some (.inr (.inr 32)), some (.inl x1), some (.inl x2), some (.inl x3), none] h Q := by
  unfold gI
  refine x_aload_n (pc := 0) (show decode mX6_travelBy.2.1 0 = .ok (.aload_n 0, 1) by decide +kernel) rfl rfl ?_
  refine x_getR (pc := 1) f6_35 rfl rfl (show decode mX6_travelBy.2.1 1 = .ok (.getfield 35, 3) by decide +kernel) ?_
  refine x_iload_n (pc := 4) (show decode mX6_travelBy.2.1 4 = .ok (.iload_n 1, 1) by decide +kernel) rfl rfl ?_
  refine x_iconst (pc := 5) (n := 1) (show decode mX6_travelBy.2.1 5 = .ok (.iconst 1, 1) by decide +kernel) ?_
  refine x_iload_n (pc := 6) (show decode mX6_travelBy.2.1 6 = .ok (.iload_n 3, 1) by decide +kernel) rfl rfl ?_
  obtain ⟨hg, hR⟩ := hR
  refine x_ishl (pc := 7) (show decode mX6_travelBy.2.1 7 = .ok (.ishl, 1) by decide +kernel) hg ?_
  refine x_ior (pc := 8) (show decode mX6_travelBy.2.1 8 = .ok (.ior, 1) by decide +kernel) ?_
  obtain ⟨hg, hR⟩ := hR
  refine x_iald (pc := 9) rfl (by decide) hg (show decode mX6_travelBy.2.1 9 = .ok (.iaload, 1) by decide +kernel) ?_
  refine x_istore (pc := 10) (ls' := [some (.inr (.inr 32)), some (.inl x1), some (.inl x2), some (.inl x3), some (.inl (h 54 (xorI x1 (1 * 2 ^ (Int.toNat x3)))))]) (show decode mX6_travelBy.2.1 10 = .ok (.istore 4, 2) by decide +kernel) (by decide) rfl ?_
  refine x_iload_n (pc := 12) (show decode mX6_travelBy.2.1 12 = .ok (.iload_n 2, 1) by decide +kernel) rfl rfl ?_
  refine x_aload_n (pc := 13) (show decode mX6_travelBy.2.1 13 = .ok (.aload_n 0, 1) by decide +kernel) rfl rfl ?_
  refine x_getR (pc := 14) f6_23 rfl rfl (show decode mX6_travelBy.2.1 14 = .ok (.getfield 23, 3) by decide +kernel) ?_
  refine x_iload_n (pc := 17) (show decode mX6_travelBy.2.1 17 = .ok (.iload_n 3, 1) by decide +kernel) rfl rfl ?_
  obtain ⟨hg, hR⟩ := hR
  refine x_iald (pc := 18) rfl (by decide) hg (show decode mX6_travelBy.2.1 18 = .ok (.iaload, 1) by decide +kernel) ?_
  refine x_isub (pc := 19) (show decode mX6_travelBy.2.1 19 = .ok (.isub, 1) by decide +kernel) ?_
  obtain ⟨hg, hR⟩ := hR
  refine x_mabs (pc := 20) (b := 0) (tblG_m3 168 rfl rfl) MA_st M_in MA_cd hg (Nat.le_of_ble_eq_true rfl) hd (show decode mX6_travelBy.2.1 20 = .ok (.invokestatic 85, 3) by decide +kernel) ?_
  refine x_aload_n (pc := 23) (show decode mX6_travelBy.2.1 23 = .ok (.aload_n 0, 1) by decide +kernel) rfl rfl ?_
  refine x_getR (pc := 24) f6_42 rfl rfl (show decode mX6_travelBy.2.1 24 = .ok (.getfield 42, 3) by decide +kernel) ?_
  refine x_iload (pc := 27) (show decode mX6_travelBy.2.1 27 = .ok (.iload 4, 2) by decide +kernel) rfl ?_
  refine x_bipush (pc := 29) (n := 12) (show decode mX6_travelBy.2.1 29 = .ok (.bipush 12, 2) by decide +kernel) rfl ?_
  refine x_imul (pc := 31) (show decode mX6_travelBy.2.1 31 = .ok (.imul, 1) by decide +kernel) ?_
  refine x_iload_n (pc := 32) (show decode mX6_travelBy.2.1 32 = .ok (.iload_n 3, 1) by decide +kernel) rfl rfl ?_
  refine x_iadd (pc := 33) (show decode mX6_travelBy.2.1 33 = .ok (.iadd, 1) by decide +kernel) ?_
  obtain ⟨hg, hR⟩ := hR
  refine x_iald (pc := 34) rfl (by decide) hg (show decode mX6_travelBy.2.1 34 = .ok (.iaload, 1) by decide +kernel) ?_
  refine x_iadd (pc := 35) (show decode mX6_travelBy.2.1 35 = .ok (.iadd, 1) by decide +kernel) ?_
  exact x_iret (pc := 36) rfl (show decode mX6_travelBy.2.1 36 = .ok (.ireturn, 1) by decide +kernel) ⟨_, rfl, hR⟩
set_option maxRecDepth 4000 in
theorem sg_X6_leastFrom_0 {d : Nat} {x1 x2 : Int} {h : xH} {Q : Int → xH → Prop}
    (hR : gI wdC d mX6_leastFrom 5 [some (.inr (.inr 32)), some (.inl x1), some (.inl x2), some (.inl (-1)), some (.inl 0), none] h Q) :
    gI wdC d mX6_leastFrom 0 [some (.inr (.inr 32)), some (.inl x1), some (.inl x2), none, none, none] h Q := by
  unfold gI
  refine x_iconst (pc := 0) (n := (-1)) (show decode mX6_leastFrom.2.1 0 = .ok (.iconst (-1), 1) by decide +kernel) ?_
  refine x_istore_n (pc := 1) (ls' := [some (.inr (.inr 32)), some (.inl x1), some (.inl x2), some (.inl (-1)), none, none]) (show decode mX6_leastFrom.2.1 1 = .ok (.istore_n 3, 1) by decide +kernel) rfl (by decide) rfl ?_
  refine x_iconst (pc := 2) (n := 0) (show decode mX6_leastFrom.2.1 2 = .ok (.iconst 0, 1) by decide +kernel) ?_
  refine x_istore (pc := 3) (ls' := [some (.inr (.inr 32)), some (.inl x1), some (.inl x2), some (.inl (-1)), some (.inl 0), none]) (show decode mX6_leastFrom.2.1 3 = .ok (.istore 4, 2) by decide +kernel) (by decide) rfl ?_
  exact hR
set_option maxRecDepth 4000 in
theorem sg_X6_leastFrom_5 {d : Nat} {x1 x2 x3 x4 : Int} {h : xH} {Q : Int → xH → Prop} (hd : 1 ≤ d)
    (hR : (inI x4 ∧ inI (h 32 0)) ∧ ((h 32 0) ≤ x4 → (inI x3) ∧ Q (max x3 0) h) ∧ (x4 < (h 32 0) → cB wdC (d - 1) mX6_comesNext [.inr (.inr 32), .inl x1, .inl x4] h (fun h1 => cI wdC (d - 1) mX6_travelBy [.inr (.inr 32), .inl x1, .inl x2, .inl x4] h1 (fun r3 h2 => (inI x3) ∧ (x3 < 0 → gI wdC d mX6_leastFrom 5 [some (.inr (.inr 32)), some (.inl x1), some (.inl x2), some (.inl r3), some (.inl (x4 + 1)), none] h2 Q) ∧ (0 ≤ x3 → (inI r3 ∧ inI x3) ∧ (x3 ≤ r3 → gI wdC d mX6_leastFrom 5 [some (.inr (.inr 32)), some (.inl x1), some (.inl x2), some (.inl x3), some (.inl (x4 + 1)), none] h2 Q) ∧ (r3 < x3 → gI wdC d mX6_leastFrom 5 [some (.inr (.inr 32)), some (.inl x1), some (.inl x2), some (.inl r3), some (.inl (x4 + 1)), none] h2 Q)))) (fun h1 => gI wdC d mX6_leastFrom 5 [some (.inr (.inr 32)), some (.inl x1), some (.inl x2), some (.inl x3), some (.inl (x4 + 1)), none] h1 Q))) :
    gI wdC d mX6_leastFrom 5 [some (.inr (.inr 32)), some (.inl x1), some (.inl x2), some (.inl x3), some (.inl x4), none] h Q := by
  unfold gI
  refine x_iload (pc := 5) (show decode mX6_leastFrom.2.1 5 = .ok (.iload 4, 2) by decide +kernel) rfl ?_
  refine x_aload_n (pc := 7) (show decode mX6_leastFrom.2.1 7 = .ok (.aload_n 0, 1) by decide +kernel) rfl rfl ?_
  refine x_getI (pc := 8) (ki := 0) f6_9 rfl rfl (by decide) rfl (show decode mX6_leastFrom.2.1 8 = .ok (.getfield 9, 3) by decide +kernel) ?_
  obtain ⟨hg, hR⟩ := hR
  refine x_icmp_ge (pc := 11) (tgt := 56) (show decode mX6_leastFrom.2.1 11 = .ok (.if_icmp .ge 45, 3) by decide +kernel) (by decide) ⟨hg.1, hg.2⟩ (fun hc => ?_) (fun hc => ?_)
  · replace hR := hR.1 hc
    refine x_iload_n (pc := 56) (show decode mX6_leastFrom.2.1 56 = .ok (.iload_n 3, 1) by decide +kernel) rfl rfl ?_
    refine x_iconst (pc := 57) (n := 0) (show decode mX6_leastFrom.2.1 57 = .ok (.iconst 0, 1) by decide +kernel) ?_
    obtain ⟨hg, hR⟩ := hR
    refine x_mmax (pc := 58) (tblG_m3 169 rfl rfl) MX_st M_in MX_cd ⟨hg, (by unfold inI; decide)⟩ (Nat.le_of_ble_eq_true rfl) hd (show decode mX6_leastFrom.2.1 58 = .ok (.invokestatic 95, 3) by decide +kernel) ?_
    exact x_iret (pc := 61) rfl (show decode mX6_leastFrom.2.1 61 = .ok (.ireturn, 1) by decide +kernel) ⟨_, rfl, hR⟩
  · replace hR := hR.2 hc
    refine x_aload_n (pc := 14) (show decode mX6_leastFrom.2.1 14 = .ok (.aload_n 0, 1) by decide +kernel) rfl rfl ?_
    refine x_iload_n (pc := 15) (show decode mX6_leastFrom.2.1 15 = .ok (.iload_n 1, 1) by decide +kernel) rfl rfl ?_
    refine x_iload (pc := 16) (show decode mX6_leastFrom.2.1 16 = .ok (.iload 4, 2) by decide +kernel) rfl ?_
    refine x_callV (pc := 18) (As := [.inl x1, .inl x4]) (rest := []) (lk6_73 rfl) im_X6_comesNext sl_X6_comesNext rfl rfl rfl (Nat.le_of_ble_eq_true rfl) (Nat.le_of_ble_eq_true rfl) (show decode mX6_leastFrom.2.1 18 = .ok (.invokevirtual 73, 3) by decide +kernel) hd hR (fun r9 h1 hq => ?_)
    obtain ⟨r8, rfl, hq⟩ := hq
    rcases hq with ⟨rfl, hR⟩ | ⟨rfl, hR⟩
    · show xG _ _ _ 21 _ [.inl 1] _ _
      refine x_if_ne (pc := 21) (tgt := 27) (show decode mX6_leastFrom.2.1 21 = .ok (.ifCond .ne 6, 3) by decide +kernel) (by decide) (by unfold inI; decide) (fun _ => ?_) (fun hc => absurd hc (by decide))
      refine x_aload_n (pc := 27) (show decode mX6_leastFrom.2.1 27 = .ok (.aload_n 0, 1) by decide +kernel) rfl rfl ?_
      refine x_iload_n (pc := 28) (show decode mX6_leastFrom.2.1 28 = .ok (.iload_n 1, 1) by decide +kernel) rfl rfl ?_
      refine x_iload_n (pc := 29) (show decode mX6_leastFrom.2.1 29 = .ok (.iload_n 2, 1) by decide +kernel) rfl rfl ?_
      refine x_iload (pc := 30) (show decode mX6_leastFrom.2.1 30 = .ok (.iload 4, 2) by decide +kernel) rfl ?_
      refine x_callV (pc := 32) (As := [.inl x1, .inl x2, .inl x4]) (rest := []) (lk6_91 rfl) im_X6_travelBy sl_X6_travelBy rfl rfl rfl (Nat.le_of_ble_eq_true rfl) (Nat.le_of_ble_eq_true rfl) (show decode mX6_leastFrom.2.1 32 = .ok (.invokevirtual 91, 3) by decide +kernel) hd hR (fun r9 h2 hq => ?_)
      obtain ⟨r3, rfl, hR⟩ := hq
      show xG _ _ _ 35 _ [.inl r3] _ _
      refine x_istore (pc := 35) (ls' := [some (.inr (.inr 32)), some (.inl x1), some (.inl x2), some (.inl x3), some (.inl x4), some (.inl r3)]) (show decode mX6_leastFrom.2.1 35 = .ok (.istore 5, 2) by decide +kernel) (by decide) rfl ?_
      refine x_iload_n (pc := 37) (show decode mX6_leastFrom.2.1 37 = .ok (.iload_n 3, 1) by decide +kernel) rfl rfl ?_
      obtain ⟨hg, hR⟩ := hR
      refine x_if_lt (pc := 38) (tgt := 47) (show decode mX6_leastFrom.2.1 38 = .ok (.ifCond .lt 9, 3) by decide +kernel) (by decide) hg (fun hc => ?_) (fun hc => ?_)
      · replace hR := hR.1 hc
        refine x_iload (pc := 47) (show decode mX6_leastFrom.2.1 47 = .ok (.iload 5, 2) by decide +kernel) rfl ?_
        refine x_istore_n (pc := 49) (ls' := [some (.inr (.inr 32)), some (.inl x1), some (.inl x2), some (.inl r3), some (.inl x4), some (.inl r3)]) (show decode mX6_leastFrom.2.1 49 = .ok (.istore_n 3, 1) by decide +kernel) rfl (by decide) rfl ?_
        refine x_iinc (pc := 50) (ls' := [some (.inr (.inr 32)), some (.inl x1), some (.inl x2), some (.inl r3), some (.inl (x4 + 1)), some (.inl r3)]) (show decode mX6_leastFrom.2.1 50 = .ok (.iinc 4 1, 3) by decide +kernel) (by decide) rfl rfl ?_
        refine x_goto (pc := 53) (tgt := 5) (show decode mX6_leastFrom.2.1 53 = .ok (.goto (-48), 3) by decide +kernel) (by decide) ?_
        exact x_weak (xle_get (by repeat' constructor)) hR
      · replace hR := hR.2 hc
        refine x_iload (pc := 41) (show decode mX6_leastFrom.2.1 41 = .ok (.iload 5, 2) by decide +kernel) rfl ?_
        refine x_iload_n (pc := 43) (show decode mX6_leastFrom.2.1 43 = .ok (.iload_n 3, 1) by decide +kernel) rfl rfl ?_
        obtain ⟨hg, hR⟩ := hR
        refine x_icmp_ge (pc := 44) (tgt := 50) (show decode mX6_leastFrom.2.1 44 = .ok (.if_icmp .ge 6, 3) by decide +kernel) (by decide) ⟨hg.1, hg.2⟩ (fun hc => ?_) (fun hc => ?_)
        · replace hR := hR.1 hc
          refine x_iinc (pc := 50) (ls' := [some (.inr (.inr 32)), some (.inl x1), some (.inl x2), some (.inl x3), some (.inl (x4 + 1)), some (.inl r3)]) (show decode mX6_leastFrom.2.1 50 = .ok (.iinc 4 1, 3) by decide +kernel) (by decide) rfl rfl ?_
          refine x_goto (pc := 53) (tgt := 5) (show decode mX6_leastFrom.2.1 53 = .ok (.goto (-48), 3) by decide +kernel) (by decide) ?_
          exact x_weak (xle_get (by repeat' constructor)) hR
        · replace hR := hR.2 hc
          refine x_iload (pc := 47) (show decode mX6_leastFrom.2.1 47 = .ok (.iload 5, 2) by decide +kernel) rfl ?_
          refine x_istore_n (pc := 49) (ls' := [some (.inr (.inr 32)), some (.inl x1), some (.inl x2), some (.inl r3), some (.inl x4), some (.inl r3)]) (show decode mX6_leastFrom.2.1 49 = .ok (.istore_n 3, 1) by decide +kernel) rfl (by decide) rfl ?_
          refine x_iinc (pc := 50) (ls' := [some (.inr (.inr 32)), some (.inl x1), some (.inl x2), some (.inl r3), some (.inl (x4 + 1)), some (.inl r3)]) (show decode mX6_leastFrom.2.1 50 = .ok (.iinc 4 1, 3) by decide +kernel) (by decide) rfl rfl ?_
          refine x_goto (pc := 53) (tgt := 5) (show decode mX6_leastFrom.2.1 53 = .ok (.goto (-48), 3) by decide +kernel) (by decide) ?_
          exact x_weak (xle_get (by repeat' constructor)) hR
    · show xG _ _ _ 21 _ [.inl 0] _ _
      refine x_if_ne (pc := 21) (tgt := 27) (show decode mX6_leastFrom.2.1 21 = .ok (.ifCond .ne 6, 3) by decide +kernel) (by decide) (by unfold inI; decide) (fun hc => absurd hc (by decide)) (fun _ => ?_)
      refine x_goto (pc := 24) (tgt := 50) (show decode mX6_leastFrom.2.1 24 = .ok (.goto 26, 3) by decide +kernel) (by decide) ?_
      refine x_iinc (pc := 50) (ls' := [some (.inr (.inr 32)), some (.inl x1), some (.inl x2), some (.inl x3), some (.inl (x4 + 1)), none]) (show decode mX6_leastFrom.2.1 50 = .ok (.iinc 4 1, 3) by decide +kernel) (by decide) rfl rfl ?_
      refine x_goto (pc := 53) (tgt := 5) (show decode mX6_leastFrom.2.1 53 = .ok (.goto (-48), 3) by decide +kernel) (by decide) ?_
      exact hR
set_option maxRecDepth 4000 in
theorem sg_X6_pinOfLeast_0 {d : Nat} {x1 x2 : Int} {h : xH} {Q : Int → xH → Prop} (hd : 1 ≤ d)
    (hR : cI wdC (d - 1) mX6_leastTravel [.inr (.inr 32), .inl x1] h (fun r2 h1 => gI wdC d mX6_pinOfLeast 18 [some (.inr (.inr 32)), none, some (.inl x2), some (.inl r2), some (.inl 0), some (.inl x1), some (.inl 0), some (.inl 0)] h1 Q)) :
    gI wdC d mX6_pinOfLeast 0 [some (.inr (.inr 32)), some (.inl x1), some (.inl x2), none, none, none, none, none] h Q := by
  unfold gI
  refine x_aload_n (pc := 0) (show decode mX6_pinOfLeast.2.1 0 = .ok (.aload_n 0, 1) by decide +kernel) rfl rfl ?_
  refine x_iload_n (pc := 1) (show decode mX6_pinOfLeast.2.1 1 = .ok (.iload_n 1, 1) by decide +kernel) rfl rfl ?_
  refine x_callV (pc := 2) (As := [.inl x1]) (rest := []) (lk6_98 rfl) im_X6_leastTravel sl_X6_leastTravel rfl rfl rfl (Nat.le_of_ble_eq_true rfl) (Nat.le_of_ble_eq_true rfl) (show decode mX6_pinOfLeast.2.1 2 = .ok (.invokevirtual 98, 3) by decide +kernel) hd hR (fun r9 h1 hq => ?_)
  obtain ⟨r2, rfl, hR⟩ := hq
  show xG _ _ _ 5 _ [.inl r2] _ _
  refine x_istore_n (pc := 5) (ls' := [some (.inr (.inr 32)), some (.inl x1), some (.inl x2), some (.inl r2), none, none, none, none]) (show decode mX6_pinOfLeast.2.1 5 = .ok (.istore_n 3, 1) by decide +kernel) rfl (by decide) rfl ?_
  refine x_iconst (pc := 6) (n := 0) (show decode mX6_pinOfLeast.2.1 6 = .ok (.iconst 0, 1) by decide +kernel) ?_
  refine x_istore (pc := 7) (ls' := [some (.inr (.inr 32)), some (.inl x1), some (.inl x2), some (.inl r2), some (.inl 0), none, none, none]) (show decode mX6_pinOfLeast.2.1 7 = .ok (.istore 4, 2) by decide +kernel) (by decide) rfl ?_
  refine x_iload_n (pc := 9) (show decode mX6_pinOfLeast.2.1 9 = .ok (.iload_n 1, 1) by decide +kernel) rfl rfl ?_
  refine x_istore (pc := 10) (ls' := [some (.inr (.inr 32)), some (.inl x1), some (.inl x2), some (.inl r2), some (.inl 0), some (.inl x1), none, none]) (show decode mX6_pinOfLeast.2.1 10 = .ok (.istore 5, 2) by decide +kernel) (by decide) rfl ?_
  refine x_iconst (pc := 12) (n := 0) (show decode mX6_pinOfLeast.2.1 12 = .ok (.iconst 0, 1) by decide +kernel) ?_
  refine x_istore (pc := 13) (ls' := [some (.inr (.inr 32)), some (.inl x1), some (.inl x2), some (.inl r2), some (.inl 0), some (.inl x1), some (.inl 0), none]) (show decode mX6_pinOfLeast.2.1 13 = .ok (.istore 6, 2) by decide +kernel) (by decide) rfl ?_
  refine x_iconst (pc := 15) (n := 0) (show decode mX6_pinOfLeast.2.1 15 = .ok (.iconst 0, 1) by decide +kernel) ?_
  refine x_istore (pc := 16) (ls' := [some (.inr (.inr 32)), some (.inl x1), some (.inl x2), some (.inl r2), some (.inl 0), some (.inl x1), some (.inl 0), some (.inl 0)]) (show decode mX6_pinOfLeast.2.1 16 = .ok (.istore 7, 2) by decide +kernel) (by decide) rfl ?_
  exact x_weak (xle_get (by repeat' constructor)) hR
set_option maxRecDepth 4000 in
theorem sg_X6_pinOfLeast_18 {d : Nat} {x2 x3 x4 x5 x6 x7 : Int} {h : xH} {Q : Int → xH → Prop} (hd : 1 ≤ d)
    (hR : (inI x7 ∧ inI x2) ∧ (x2 < x7 → (0 ≤ x6 ∧ x6 < 12) ∧ Q (h 33 x6) h) ∧ (x7 ≤ x2 → cI wdC (d - 1) mX6_firstBy [.inr (.inr 32), .inl x4, .inl x5, .inl x3] h (fun r2 h1 => (0 ≤ r2 ∧ r2 < 12) ∧ (inI (x5 - (h1 34 r2))) ∧ (0 ≤ r2 ∧ r2 ≤ 31) ∧ (0 ≤ r2 ∧ r2 < 12) ∧ gI wdC d mX6_pinOfLeast 18 [some (.inr (.inr 32)), none, some (.inl x2), some (.inl (x3 - (max (x5 - (h1 34 r2)) (-(x5 - (h1 34 r2)))))), some (.inl (xorI x4 (1 * 2 ^ (Int.toNat r2)))), some (.inl (h1 34 r2)), some (.inl r2), some (.inl (x7 + 1))] h1 Q))) :
    gI wdC d mX6_pinOfLeast 18 [some (.inr (.inr 32)), none, some (.inl x2), some (.inl x3), some (.inl x4), some (.inl x5), some (.inl x6), some (.inl x7)] h Q := by
  unfold gI
  refine x_iload (pc := 18) (show decode mX6_pinOfLeast.2.1 18 = .ok (.iload 7, 2) by decide +kernel) rfl ?_
  refine x_iload_n (pc := 20) (show decode mX6_pinOfLeast.2.1 20 = .ok (.iload_n 2, 1) by decide +kernel) rfl rfl ?_
  obtain ⟨hg, hR⟩ := hR
  refine x_icmp_gt (pc := 21) (tgt := 75) (show decode mX6_pinOfLeast.2.1 21 = .ok (.if_icmp .gt 54, 3) by decide +kernel) (by decide) ⟨hg.1, hg.2⟩ (fun hc => ?_) (fun hc => ?_)
  · replace hR := hR.1 hc
    refine x_aload_n (pc := 75) (show decode mX6_pinOfLeast.2.1 75 = .ok (.aload_n 0, 1) by decide +kernel) rfl rfl ?_
    refine x_getR (pc := 76) f6_19 rfl rfl (show decode mX6_pinOfLeast.2.1 76 = .ok (.getfield 19, 3) by decide +kernel) ?_
    refine x_iload (pc := 79) (show decode mX6_pinOfLeast.2.1 79 = .ok (.iload 6, 2) by decide +kernel) rfl ?_
    obtain ⟨hg, hR⟩ := hR
    refine x_iald (pc := 81) rfl (by decide) hg (show decode mX6_pinOfLeast.2.1 81 = .ok (.iaload, 1) by decide +kernel) ?_
    exact x_iret (pc := 82) rfl (show decode mX6_pinOfLeast.2.1 82 = .ok (.ireturn, 1) by decide +kernel) ⟨_, rfl, hR⟩
  · replace hR := hR.2 hc
    refine x_aload_n (pc := 24) (show decode mX6_pinOfLeast.2.1 24 = .ok (.aload_n 0, 1) by decide +kernel) rfl rfl ?_
    refine x_iload (pc := 25) (show decode mX6_pinOfLeast.2.1 25 = .ok (.iload 4, 2) by decide +kernel) rfl ?_
    refine x_iload (pc := 27) (show decode mX6_pinOfLeast.2.1 27 = .ok (.iload 5, 2) by decide +kernel) rfl ?_
    refine x_iload_n (pc := 29) (show decode mX6_pinOfLeast.2.1 29 = .ok (.iload_n 3, 1) by decide +kernel) rfl rfl ?_
    refine x_callV (pc := 30) (As := [.inl x4, .inl x5, .inl x3]) (rest := []) (lk6_101 rfl) im_X6_firstBy sl_X6_firstBy rfl rfl rfl (Nat.le_of_ble_eq_true rfl) (Nat.le_of_ble_eq_true rfl) (show decode mX6_pinOfLeast.2.1 30 = .ok (.invokevirtual 101, 3) by decide +kernel) hd hR (fun r9 h1 hq => ?_)
    obtain ⟨r2, rfl, hR⟩ := hq
    show xG _ _ _ 33 _ [.inl r2] _ _
    refine x_istore (pc := 33) (ls' := [some (.inr (.inr 32)), none, some (.inl x2), some (.inl x3), some (.inl x4), some (.inl x5), some (.inl r2), some (.inl x7)]) (show decode mX6_pinOfLeast.2.1 33 = .ok (.istore 6, 2) by decide +kernel) (by decide) rfl ?_
    refine x_iload_n (pc := 35) (show decode mX6_pinOfLeast.2.1 35 = .ok (.iload_n 3, 1) by decide +kernel) rfl rfl ?_
    refine x_iload (pc := 36) (show decode mX6_pinOfLeast.2.1 36 = .ok (.iload 5, 2) by decide +kernel) rfl ?_
    refine x_aload_n (pc := 38) (show decode mX6_pinOfLeast.2.1 38 = .ok (.aload_n 0, 1) by decide +kernel) rfl rfl ?_
    refine x_getR (pc := 39) f6_23 rfl rfl (show decode mX6_pinOfLeast.2.1 39 = .ok (.getfield 23, 3) by decide +kernel) ?_
    refine x_iload (pc := 42) (show decode mX6_pinOfLeast.2.1 42 = .ok (.iload 6, 2) by decide +kernel) rfl ?_
    obtain ⟨hg, hR⟩ := hR
    refine x_iald (pc := 44) rfl (by decide) hg (show decode mX6_pinOfLeast.2.1 44 = .ok (.iaload, 1) by decide +kernel) ?_
    refine x_isub (pc := 45) (show decode mX6_pinOfLeast.2.1 45 = .ok (.isub, 1) by decide +kernel) ?_
    obtain ⟨hg, hR⟩ := hR
    refine x_mabs (pc := 46) (b := 0) (tblG_m3 168 rfl rfl) MA_st M_in MA_cd hg (Nat.le_of_ble_eq_true rfl) hd (show decode mX6_pinOfLeast.2.1 46 = .ok (.invokestatic 85, 3) by decide +kernel) ?_
    refine x_isub (pc := 49) (show decode mX6_pinOfLeast.2.1 49 = .ok (.isub, 1) by decide +kernel) ?_
    refine x_istore_n (pc := 50) (ls' := [some (.inr (.inr 32)), none, some (.inl x2), some (.inl (x3 - (max (x5 - (h1 34 r2)) (-(x5 - (h1 34 r2)))))), some (.inl x4), some (.inl x5), some (.inl r2), some (.inl x7)]) (show decode mX6_pinOfLeast.2.1 50 = .ok (.istore_n 3, 1) by decide +kernel) rfl (by decide) rfl ?_
    refine x_iload (pc := 51) (show decode mX6_pinOfLeast.2.1 51 = .ok (.iload 4, 2) by decide +kernel) rfl ?_
    refine x_iconst (pc := 53) (n := 1) (show decode mX6_pinOfLeast.2.1 53 = .ok (.iconst 1, 1) by decide +kernel) ?_
    refine x_iload (pc := 54) (show decode mX6_pinOfLeast.2.1 54 = .ok (.iload 6, 2) by decide +kernel) rfl ?_
    obtain ⟨hg, hR⟩ := hR
    refine x_ishl (pc := 56) (show decode mX6_pinOfLeast.2.1 56 = .ok (.ishl, 1) by decide +kernel) hg ?_
    refine x_ior (pc := 57) (show decode mX6_pinOfLeast.2.1 57 = .ok (.ior, 1) by decide +kernel) ?_
    refine x_istore (pc := 58) (ls' := [some (.inr (.inr 32)), none, some (.inl x2), some (.inl (x3 - (max (x5 - (h1 34 r2)) (-(x5 - (h1 34 r2)))))), some (.inl (xorI x4 (1 * 2 ^ (Int.toNat r2)))), some (.inl x5), some (.inl r2), some (.inl x7)]) (show decode mX6_pinOfLeast.2.1 58 = .ok (.istore 4, 2) by decide +kernel) (by decide) rfl ?_
    refine x_aload_n (pc := 60) (show decode mX6_pinOfLeast.2.1 60 = .ok (.aload_n 0, 1) by decide +kernel) rfl rfl ?_
    refine x_getR (pc := 61) f6_23 rfl rfl (show decode mX6_pinOfLeast.2.1 61 = .ok (.getfield 23, 3) by decide +kernel) ?_
    refine x_iload (pc := 64) (show decode mX6_pinOfLeast.2.1 64 = .ok (.iload 6, 2) by decide +kernel) rfl ?_
    obtain ⟨hg, hR⟩ := hR
    refine x_iald (pc := 66) rfl (by decide) hg (show decode mX6_pinOfLeast.2.1 66 = .ok (.iaload, 1) by decide +kernel) ?_
    refine x_istore (pc := 67) (ls' := [some (.inr (.inr 32)), none, some (.inl x2), some (.inl (x3 - (max (x5 - (h1 34 r2)) (-(x5 - (h1 34 r2)))))), some (.inl (xorI x4 (1 * 2 ^ (Int.toNat r2)))), some (.inl (h1 34 r2)), some (.inl r2), some (.inl x7)]) (show decode mX6_pinOfLeast.2.1 67 = .ok (.istore 5, 2) by decide +kernel) (by decide) rfl ?_
    refine x_iinc (pc := 69) (ls' := [some (.inr (.inr 32)), none, some (.inl x2), some (.inl (x3 - (max (x5 - (h1 34 r2)) (-(x5 - (h1 34 r2)))))), some (.inl (xorI x4 (1 * 2 ^ (Int.toNat r2)))), some (.inl (h1 34 r2)), some (.inl r2), some (.inl (x7 + 1))]) (show decode mX6_pinOfLeast.2.1 69 = .ok (.iinc 7 1, 3) by decide +kernel) (by decide) rfl rfl ?_
    refine x_goto (pc := 72) (tgt := 18) (show decode mX6_pinOfLeast.2.1 72 = .ok (.goto (-54), 3) by decide +kernel) (by decide) ?_
    exact hR
set_option maxRecDepth 4000 in
theorem sg_X6_firstBy_0 {d : Nat} {x1 x2 x3 : Int} {h : xH} {Q : Int → xH → Prop}
    (hR : gI wdC d mX6_firstBy 3 [some (.inr (.inr 32)), some (.inl x1), some (.inl x2), some (.inl x3), some (.inl 0)] h Q) :
    gI wdC d mX6_firstBy 0 [some (.inr (.inr 32)), some (.inl x1), some (.inl x2), some (.inl x3), none] h Q := by
  unfold gI
  refine x_iconst (pc := 0) (n := 0) (show decode mX6_firstBy.2.1 0 = .ok (.iconst 0, 1) by decide +kernel) ?_
  refine x_istore (pc := 1) (ls' := [some (.inr (.inr 32)), some (.inl x1), some (.inl x2), some (.inl x3), some (.inl 0)]) (show decode mX6_firstBy.2.1 1 = .ok (.istore 4, 2) by decide +kernel) (by decide) rfl ?_
  exact hR
set_option maxRecDepth 4000 in
theorem sg_X6_firstBy_3 {d : Nat} {x1 x2 x3 x4 : Int} {h : xH} {Q : Int → xH → Prop} (hd : 1 ≤ d)
    (hR : (inI x4 ∧ inI (h 32 0)) ∧ ((h 32 0) ≤ x4 → Q 0 h) ∧ (x4 < (h 32 0) → cB wdC (d - 1) mX6_comesNext [.inr (.inr 32), .inl x1, .inl x4] h (fun h1 => cI wdC (d - 1) mX6_travelBy [.inr (.inr 32), .inl x1, .inl x2, .inl x4] h1 (fun r3 h2 => (inI r3 ∧ inI x3) ∧ (¬ r3 = x3 → gI wdC d mX6_firstBy 3 [some (.inr (.inr 32)), some (.inl x1), some (.inl x2), some (.inl x3), some (.inl (x4 + 1))] h2 Q) ∧ (r3 = x3 → Q x4 h2))) (fun h1 => gI wdC d mX6_firstBy 3 [some (.inr (.inr 32)), some (.inl x1), some (.inl x2), some (.inl x3), some (.inl (x4 + 1))] h1 Q))) :
    gI wdC d mX6_firstBy 3 [some (.inr (.inr 32)), some (.inl x1), some (.inl x2), some (.inl x3), some (.inl x4)] h Q := by
  unfold gI
  refine x_iload (pc := 3) (show decode mX6_firstBy.2.1 3 = .ok (.iload 4, 2) by decide +kernel) rfl ?_
  refine x_aload_n (pc := 5) (show decode mX6_firstBy.2.1 5 = .ok (.aload_n 0, 1) by decide +kernel) rfl rfl ?_
  refine x_getI (pc := 6) (ki := 0) f6_9 rfl rfl (by decide) rfl (show decode mX6_firstBy.2.1 6 = .ok (.getfield 9, 3) by decide +kernel) ?_
  obtain ⟨hg, hR⟩ := hR
  refine x_icmp_ge (pc := 9) (tgt := 43) (show decode mX6_firstBy.2.1 9 = .ok (.if_icmp .ge 34, 3) by decide +kernel) (by decide) ⟨hg.1, hg.2⟩ (fun hc => ?_) (fun hc => ?_)
  · replace hR := hR.1 hc
    refine x_iconst (pc := 43) (n := 0) (show decode mX6_firstBy.2.1 43 = .ok (.iconst 0, 1) by decide +kernel) ?_
    exact x_iret (pc := 44) rfl (show decode mX6_firstBy.2.1 44 = .ok (.ireturn, 1) by decide +kernel) ⟨_, rfl, hR⟩
  · replace hR := hR.2 hc
    refine x_aload_n (pc := 12) (show decode mX6_firstBy.2.1 12 = .ok (.aload_n 0, 1) by decide +kernel) rfl rfl ?_
    refine x_iload_n (pc := 13) (show decode mX6_firstBy.2.1 13 = .ok (.iload_n 1, 1) by decide +kernel) rfl rfl ?_
    refine x_iload (pc := 14) (show decode mX6_firstBy.2.1 14 = .ok (.iload 4, 2) by decide +kernel) rfl ?_
    refine x_callV (pc := 16) (As := [.inl x1, .inl x4]) (rest := []) (lk6_73 rfl) im_X6_comesNext sl_X6_comesNext rfl rfl rfl (Nat.le_of_ble_eq_true rfl) (Nat.le_of_ble_eq_true rfl) (show decode mX6_firstBy.2.1 16 = .ok (.invokevirtual 73, 3) by decide +kernel) hd hR (fun r9 h1 hq => ?_)
    obtain ⟨r8, rfl, hq⟩ := hq
    rcases hq with ⟨rfl, hR⟩ | ⟨rfl, hR⟩
    · show xG _ _ _ 19 _ [.inl 1] _ _
      refine x_if_eq (pc := 19) (tgt := 37) (show decode mX6_firstBy.2.1 19 = .ok (.ifCond .eq 18, 3) by decide +kernel) (by decide) (by unfold inI; decide) (fun hc => absurd hc (by decide)) (fun _ => ?_)
      refine x_aload_n (pc := 22) (show decode mX6_firstBy.2.1 22 = .ok (.aload_n 0, 1) by decide +kernel) rfl rfl ?_
      refine x_iload_n (pc := 23) (show decode mX6_firstBy.2.1 23 = .ok (.iload_n 1, 1) by decide +kernel) rfl rfl ?_
      refine x_iload_n (pc := 24) (show decode mX6_firstBy.2.1 24 = .ok (.iload_n 2, 1) by decide +kernel) rfl rfl ?_
      refine x_iload (pc := 25) (show decode mX6_firstBy.2.1 25 = .ok (.iload 4, 2) by decide +kernel) rfl ?_
      refine x_callV (pc := 27) (As := [.inl x1, .inl x2, .inl x4]) (rest := []) (lk6_91 rfl) im_X6_travelBy sl_X6_travelBy rfl rfl rfl (Nat.le_of_ble_eq_true rfl) (Nat.le_of_ble_eq_true rfl) (show decode mX6_firstBy.2.1 27 = .ok (.invokevirtual 91, 3) by decide +kernel) hd hR (fun r9 h2 hq => ?_)
      obtain ⟨r3, rfl, hR⟩ := hq
      show xG _ _ _ 30 _ [.inl r3] _ _
      refine x_iload_n (pc := 30) (show decode mX6_firstBy.2.1 30 = .ok (.iload_n 3, 1) by decide +kernel) rfl rfl ?_
      obtain ⟨hg, hR⟩ := hR
      refine x_icmp_ne (pc := 31) (tgt := 37) (show decode mX6_firstBy.2.1 31 = .ok (.if_icmp .ne 6, 3) by decide +kernel) (by decide) ⟨hg.1, hg.2⟩ (fun hc => ?_) (fun hc => ?_)
      · replace hR := hR.1 hc
        refine x_iinc (pc := 37) (ls' := [some (.inr (.inr 32)), some (.inl x1), some (.inl x2), some (.inl x3), some (.inl (x4 + 1))]) (show decode mX6_firstBy.2.1 37 = .ok (.iinc 4 1, 3) by decide +kernel) (by decide) rfl rfl ?_
        refine x_goto (pc := 40) (tgt := 3) (show decode mX6_firstBy.2.1 40 = .ok (.goto (-37), 3) by decide +kernel) (by decide) ?_
        exact hR
      · replace hR := hR.2 hc
        refine x_iload (pc := 34) (show decode mX6_firstBy.2.1 34 = .ok (.iload 4, 2) by decide +kernel) rfl ?_
        exact x_iret (pc := 36) rfl (show decode mX6_firstBy.2.1 36 = .ok (.ireturn, 1) by decide +kernel) ⟨_, rfl, hR⟩
    · show xG _ _ _ 19 _ [.inl 0] _ _
      refine x_if_eq (pc := 19) (tgt := 37) (show decode mX6_firstBy.2.1 19 = .ok (.ifCond .eq 18, 3) by decide +kernel) (by decide) (by unfold inI; decide) (fun _ => ?_) (fun hc => absurd hc (by decide))
      refine x_iinc (pc := 37) (ls' := [some (.inr (.inr 32)), some (.inl x1), some (.inl x2), some (.inl x3), some (.inl (x4 + 1))]) (show decode mX6_firstBy.2.1 37 = .ok (.iinc 4 1, 3) by decide +kernel) (by decide) rfl rfl ?_
      refine x_goto (pc := 40) (tgt := 3) (show decode mX6_firstBy.2.1 40 = .ok (.goto (-37), 3) by decide +kernel) (by decide) ?_
      exact hR
