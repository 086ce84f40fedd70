/-! segments: what a method does from one cut point to the next (written by wip/whole/seg.py) -/
set_option maxRecDepth 4000 in
theorem sg_X0_begin_0 {d : Nat} {x1 : Int} {h : xH} {Q : xH → Prop}
    (hR : gV wdC d mX0_begin 2 [some (.inr (.inr 6)), some (.inl x1), some (.inl 0)] h Q) :
    gV wdC d mX0_begin 0 [some (.inr (.inr 6)), some (.inl x1), none] h Q := by
  unfold gV
  refine x_iconst (pc := 0) (n := 0) (show decode mX0_begin.2.1 0 = .ok (.iconst 0, 1) by decide +kernel) ?_
  refine x_istore_n (pc := 1) (ls' := [some (.inr (.inr 6)), some (.inl x1), some (.inl 0)]) (show decode mX0_begin.2.1 1 = .ok (.istore_n 2, 1) by decide +kernel) rfl (by decide) rfl ?_
  exact hR
set_option maxRecDepth 4000 in
theorem sg_X0_begin_2 {d : Nat} {x1 x2 : Int} {h : xH} {Q : xH → Prop}
    (hR : (inI x2 ∧ inI (2 * x1)) ∧ ((2 * x1) ≤ x2 → Q (xu (xu (xu h 6 2 0) 6 3 0) 6 6 0)) ∧ (x2 < (2 * x1) → (0 ≤ x2 ∧ x2 < 24) ∧ (0 ≤ x2 ∧ x2 < 24) ∧ gV wdC d mX0_begin 2 [some (.inr (.inr 6)), some (.inl x1), some (.inl (x2 + 1))] (xu (xu h 7 x2 x2) 8 x2 0) Q)) :
    gV wdC d mX0_begin 2 [some (.inr (.inr 6)), some (.inl x1), some (.inl x2)] h Q := by
  unfold gV
  refine x_iload_n (pc := 2) (show decode mX0_begin.2.1 2 = .ok (.iload_n 2, 1) by decide +kernel) rfl rfl ?_
  refine x_iconst (pc := 3) (n := 2) (show decode mX0_begin.2.1 3 = .ok (.iconst 2, 1) by decide +kernel) ?_
  refine x_iload_n (pc := 4) (show decode mX0_begin.2.1 4 = .ok (.iload_n 1, 1) by decide +kernel) rfl rfl ?_
  refine x_imul (pc := 5) (show decode mX0_begin.2.1 5 = .ok (.imul, 1) by decide +kernel) ?_
  obtain ⟨hg, hR⟩ := hR
  refine x_icmp_ge (pc := 6) (tgt := 29) (show decode mX0_begin.2.1 6 = .ok (.if_icmp .ge 23, 3) by decide +kernel) (by decide) ⟨hg.1, hg.2⟩ (fun hc => ?_) (fun hc => ?_)
  · replace hR := hR.1 hc
    refine x_aload_n (pc := 29) (show decode mX0_begin.2.1 29 = .ok (.aload_n 0, 1) by decide +kernel) rfl rfl ?_
    refine x_lconst (pc := 30) (v := 0) (show decode mX0_begin.2.1 30 = .ok (.lconst 0, 1) by decide +kernel) rfl ?_
    refine x_putL (pc := 31) (ki := 2) f0_18 fp0_2 rfl rfl rfl (show decode mX0_begin.2.1 31 = .ok (.putfield 18, 3) by decide +kernel) ?_
    refine x_aload_n (pc := 34) (show decode mX0_begin.2.1 34 = .ok (.aload_n 0, 1) by decide +kernel) rfl rfl ?_
    refine x_iconst (pc := 35) (n := 0) (show decode mX0_begin.2.1 35 = .ok (.iconst 0, 1) by decide +kernel) ?_
    refine x_putI (pc := 36) (ki := 3) f0_22 fp0_3 rfl rfl rfl (show decode mX0_begin.2.1 36 = .ok (.putfield 22, 3) by decide +kernel) ?_
    refine x_aload_n (pc := 39) (show decode mX0_begin.2.1 39 = .ok (.aload_n 0, 1) by decide +kernel) rfl rfl ?_
    refine x_iconst (pc := 40) (n := 0) (show decode mX0_begin.2.1 40 = .ok (.iconst 0, 1) by decide +kernel) ?_
    refine x_putI (pc := 41) (ki := 6) f0_32 fp0_6 rfl rfl rfl (show decode mX0_begin.2.1 41 = .ok (.putfield 32, 3) by decide +kernel) ?_
    exact x_vret (pc := 44) rfl (show decode mX0_begin.2.1 44 = .ok (.return_, 1) by decide +kernel) ⟨rfl, hR⟩
  · replace hR := hR.2 hc
    refine x_aload_n (pc := 9) (show decode mX0_begin.2.1 9 = .ok (.aload_n 0, 1) by decide +kernel) rfl rfl ?_
    refine x_getR (pc := 10) f0_9 rfl rfl (show decode mX0_begin.2.1 10 = .ok (.getfield 9, 3) by decide +kernel) ?_
    refine x_iload_n (pc := 13) (show decode mX0_begin.2.1 13 = .ok (.iload_n 2, 1) by decide +kernel) rfl rfl ?_
    refine x_iload_n (pc := 14) (show decode mX0_begin.2.1 14 = .ok (.iload_n 2, 1) by decide +kernel) rfl rfl ?_
    obtain ⟨hg, hR⟩ := hR
    refine x_iast (pc := 15) rfl (by decide) hg (show decode mX0_begin.2.1 15 = .ok (.iastore, 1) by decide +kernel) ?_
    refine x_aload_n (pc := 16) (show decode mX0_begin.2.1 16 = .ok (.aload_n 0, 1) by decide +kernel) rfl rfl ?_
    refine x_getR (pc := 17) f0_15 rfl rfl (show decode mX0_begin.2.1 17 = .ok (.getfield 15, 3) by decide +kernel) ?_
    refine x_iload_n (pc := 20) (show decode mX0_begin.2.1 20 = .ok (.iload_n 2, 1) by decide +kernel) rfl rfl ?_
    refine x_iconst (pc := 21) (n := 0) (show decode mX0_begin.2.1 21 = .ok (.iconst 0, 1) by decide +kernel) ?_
    obtain ⟨hg, hR⟩ := hR
    refine x_iast (pc := 22) rfl (by decide) hg (show decode mX0_begin.2.1 22 = .ok (.iastore, 1) by decide +kernel) ?_
    refine x_iinc (pc := 23) (ls' := [some (.inr (.inr 6)), some (.inl x1), some (.inl (x2 + 1))]) (show decode mX0_begin.2.1 23 = .ok (.iinc 2 1, 3) by decide +kernel) (by decide) rfl rfl ?_
    refine x_goto (pc := 26) (tgt := 2) (show decode mX0_begin.2.1 26 = .ok (.goto (-24), 3) by decide +kernel) (by decide) ?_
    exact hR
set_option maxRecDepth 4000 in
theorem sg_X0_copyFrom_6_16_0 {d : Nat} {h : xH} {Q : xH → Prop} (hd : 1 ≤ d)
    (hR : Q (xu (xcp (xcp (xu (xu (xcp (xcp h 17 7 24) 18 8 24) 6 2 (h 16 2)) 6 3 (h 16 3)) 19 9 30) 20 10 30) 6 6 (h 16 6))) :
    gV wdC d mX0_copyFrom 0 [some (.inr (.inr 6)), some (.inr (.inr 16))] h Q := by
  unfold gV
  refine x_aload_n (pc := 0) (show decode mX0_copyFrom.2.1 0 = .ok (.aload_n 1, 1) by decide +kernel) rfl rfl ?_
  refine x_getR (pc := 1) f0_9 rfl rfl (show decode mX0_copyFrom.2.1 1 = .ok (.getfield 9, 3) by decide +kernel) ?_
  refine x_iconst (pc := 4) (n := 0) (show decode mX0_copyFrom.2.1 4 = .ok (.iconst 0, 1) by decide +kernel) ?_
  refine x_aload_n (pc := 5) (show decode mX0_copyFrom.2.1 5 = .ok (.aload_n 0, 1) by decide +kernel) rfl rfl ?_
  refine x_getR (pc := 6) f0_9 rfl rfl (show decode mX0_copyFrom.2.1 6 = .ok (.getfield 9, 3) by decide +kernel) ?_
  refine x_iconst (pc := 9) (n := 0) (show decode mX0_copyFrom.2.1 9 = .ok (.iconst 0, 1) by decide +kernel) ?_
  refine x_bipush (pc := 10) (n := 24) (show decode mX0_copyFrom.2.1 10 = .ok (.bipush 24, 2) by decide +kernel) rfl ?_
  refine x_copy (pc := 12) rfl rfl (tblG_m4 220 rfl rfl) ac_native ac_static ac_init (by decide) (Nat.le_of_ble_eq_true rfl) hd (show decode mX0_copyFrom.2.1 12 = .ok (.invokestatic 35, 3) by decide +kernel) ?_
  refine x_aload_n (pc := 15) (show decode mX0_copyFrom.2.1 15 = .ok (.aload_n 1, 1) by decide +kernel) rfl rfl ?_
  refine x_getR (pc := 16) f0_15 rfl rfl (show decode mX0_copyFrom.2.1 16 = .ok (.getfield 15, 3) by decide +kernel) ?_
  refine x_iconst (pc := 19) (n := 0) (show decode mX0_copyFrom.2.1 19 = .ok (.iconst 0, 1) by decide +kernel) ?_
  refine x_aload_n (pc := 20) (show decode mX0_copyFrom.2.1 20 = .ok (.aload_n 0, 1) by decide +kernel) rfl rfl ?_
  refine x_getR (pc := 21) f0_15 rfl rfl (show decode mX0_copyFrom.2.1 21 = .ok (.getfield 15, 3) by decide +kernel) ?_
  refine x_iconst (pc := 24) (n := 0) (show decode mX0_copyFrom.2.1 24 = .ok (.iconst 0, 1) by decide +kernel) ?_
  refine x_bipush (pc := 25) (n := 24) (show decode mX0_copyFrom.2.1 25 = .ok (.bipush 24, 2) by decide +kernel) rfl ?_
  refine x_copy (pc := 27) rfl rfl (tblG_m4 220 rfl rfl) ac_native ac_static ac_init (by decide) (Nat.le_of_ble_eq_true rfl) hd (show decode mX0_copyFrom.2.1 27 = .ok (.invokestatic 35, 3) by decide +kernel) ?_
  refine x_aload_n (pc := 30) (show decode mX0_copyFrom.2.1 30 = .ok (.aload_n 0, 1) by decide +kernel) rfl rfl ?_
  refine x_aload_n (pc := 31) (show decode mX0_copyFrom.2.1 31 = .ok (.aload_n 1, 1) by decide +kernel) rfl rfl ?_
  refine x_getL (pc := 32) (ki := 2) f0_18 rfl rfl rfl (show decode mX0_copyFrom.2.1 32 = .ok (.getfield 18, 3) by decide +kernel) ?_
  refine x_putL (pc := 35) (ki := 2) f0_18 fp0_2 rfl rfl rfl (show decode mX0_copyFrom.2.1 35 = .ok (.putfield 18, 3) by decide +kernel) ?_
  refine x_aload_n (pc := 38) (show decode mX0_copyFrom.2.1 38 = .ok (.aload_n 0, 1) by decide +kernel) rfl rfl ?_
  refine x_aload_n (pc := 39) (show decode mX0_copyFrom.2.1 39 = .ok (.aload_n 1, 1) by decide +kernel) rfl rfl ?_
  refine x_getI (pc := 40) (ki := 3) f0_22 rfl rfl (by decide) rfl (show decode mX0_copyFrom.2.1 40 = .ok (.getfield 22, 3) by decide +kernel) ?_
  refine x_putI (pc := 43) (ki := 3) f0_22 fp0_3 rfl rfl rfl (show decode mX0_copyFrom.2.1 43 = .ok (.putfield 22, 3) by decide +kernel) ?_
  refine x_aload_n (pc := 46) (show decode mX0_copyFrom.2.1 46 = .ok (.aload_n 1, 1) by decide +kernel) rfl rfl ?_
  refine x_getR (pc := 47) f0_26 rfl rfl (show decode mX0_copyFrom.2.1 47 = .ok (.getfield 26, 3) by decide +kernel) ?_
  refine x_iconst (pc := 50) (n := 0) (show decode mX0_copyFrom.2.1 50 = .ok (.iconst 0, 1) by decide +kernel) ?_
  refine x_aload_n (pc := 51) (show decode mX0_copyFrom.2.1 51 = .ok (.aload_n 0, 1) by decide +kernel) rfl rfl ?_
  refine x_getR (pc := 52) f0_26 rfl rfl (show decode mX0_copyFrom.2.1 52 = .ok (.getfield 26, 3) by decide +kernel) ?_
  refine x_iconst (pc := 55) (n := 0) (show decode mX0_copyFrom.2.1 55 = .ok (.iconst 0, 1) by decide +kernel) ?_
  refine x_bipush (pc := 56) (n := 30) (show decode mX0_copyFrom.2.1 56 = .ok (.bipush 30, 2) by decide +kernel) rfl ?_
  refine x_copy (pc := 58) rfl rfl (tblG_m4 220 rfl rfl) ac_native ac_static ac_init (by decide) (Nat.le_of_ble_eq_true rfl) hd (show decode mX0_copyFrom.2.1 58 = .ok (.invokestatic 35, 3) by decide +kernel) ?_
  refine x_aload_n (pc := 61) (show decode mX0_copyFrom.2.1 61 = .ok (.aload_n 1, 1) by decide +kernel) rfl rfl ?_
  refine x_getR (pc := 62) f0_29 rfl rfl (show decode mX0_copyFrom.2.1 62 = .ok (.getfield 29, 3) by decide +kernel) ?_
  refine x_iconst (pc := 65) (n := 0) (show decode mX0_copyFrom.2.1 65 = .ok (.iconst 0, 1) by decide +kernel) ?_
  refine x_aload_n (pc := 66) (show decode mX0_copyFrom.2.1 66 = .ok (.aload_n 0, 1) by decide +kernel) rfl rfl ?_
  refine x_getR (pc := 67) f0_29 rfl rfl (show decode mX0_copyFrom.2.1 67 = .ok (.getfield 29, 3) by decide +kernel) ?_
  refine x_iconst (pc := 70) (n := 0) (show decode mX0_copyFrom.2.1 70 = .ok (.iconst 0, 1) by decide +kernel) ?_
  refine x_bipush (pc := 71) (n := 30) (show decode mX0_copyFrom.2.1 71 = .ok (.bipush 30, 2) by decide +kernel) rfl ?_
  refine x_copy (pc := 73) rfl rfl (tblG_m4 220 rfl rfl) ac_native ac_static ac_init (by decide) (Nat.le_of_ble_eq_true rfl) hd (show decode mX0_copyFrom.2.1 73 = .ok (.invokestatic 35, 3) by decide +kernel) ?_
  refine x_aload_n (pc := 76) (show decode mX0_copyFrom.2.1 76 = .ok (.aload_n 0, 1) by decide +kernel) rfl rfl ?_
  refine x_aload_n (pc := 77) (show decode mX0_copyFrom.2.1 77 = .ok (.aload_n 1, 1) by decide +kernel) rfl rfl ?_
  refine x_getI (pc := 78) (ki := 6) f0_32 rfl rfl (by decide) rfl (show decode mX0_copyFrom.2.1 78 = .ok (.getfield 32, 3) by decide +kernel) ?_
  refine x_putI (pc := 81) (ki := 6) f0_32 fp0_6 rfl rfl rfl (show decode mX0_copyFrom.2.1 81 = .ok (.putfield 32, 3) by decide +kernel) ?_
  exact x_vret (pc := 84) rfl (show decode mX0_copyFrom.2.1 84 = .ok (.return_, 1) by decide +kernel) ⟨rfl, hR⟩
set_option maxRecDepth 4000 in
theorem sg_X0_copyFrom_16_6_0 {d : Nat} {h : xH} {Q : xH → Prop} (hd : 1 ≤ d)
    (hR : Q (xu (xcp (xcp (xu (xu (xcp (xcp h 7 17 24) 8 18 24) 16 2 (h 6 2)) 16 3 (h 6 3)) 9 19 30) 10 20 30) 16 6 (h 6 6))) :
    gV wdC d mX0_copyFrom 0 [some (.inr (.inr 16)), some (.inr (.inr 6))] h Q := by
  unfold gV
  refine x_aload_n (pc := 0) (show decode mX0_copyFrom.2.1 0 = .ok (.aload_n 1, 1) by decide +kernel) rfl rfl ?_
  refine x_getR (pc := 1) f0_9 rfl rfl (show decode mX0_copyFrom.2.1 1 = .ok (.getfield 9, 3) by decide +kernel) ?_
  refine x_iconst (pc := 4) (n := 0) (show decode mX0_copyFrom.2.1 4 = .ok (.iconst 0, 1) by decide +kernel) ?_
  refine x_aload_n (pc := 5) (show decode mX0_copyFrom.2.1 5 = .ok (.aload_n 0, 1) by decide +kernel) rfl rfl ?_
  refine x_getR (pc := 6) f0_9 rfl rfl (show decode mX0_copyFrom.2.1 6 = .ok (.getfield 9, 3) by decide +kernel) ?_
  refine x_iconst (pc := 9) (n := 0) (show decode mX0_copyFrom.2.1 9 = .ok (.iconst 0, 1) by decide +kernel) ?_
  refine x_bipush (pc := 10) (n := 24) (show decode mX0_copyFrom.2.1 10 = .ok (.bipush 24, 2) by decide +kernel) rfl ?_
  refine x_copy (pc := 12) rfl rfl (tblG_m4 220 rfl rfl) ac_native ac_static ac_init (by decide) (Nat.le_of_ble_eq_true rfl) hd (show decode mX0_copyFrom.2.1 12 = .ok (.invokestatic 35, 3) by decide +kernel) ?_
  refine x_aload_n (pc := 15) (show decode mX0_copyFrom.2.1 15 = .ok (.aload_n 1, 1) by decide +kernel) rfl rfl ?_
  refine x_getR (pc := 16) f0_15 rfl rfl (show decode mX0_copyFrom.2.1 16 = .ok (.getfield 15, 3) by decide +kernel) ?_
  refine x_iconst (pc := 19) (n := 0) (show decode mX0_copyFrom.2.1 19 = .ok (.iconst 0, 1) by decide +kernel) ?_
  refine x_aload_n (pc := 20) (show decode mX0_copyFrom.2.1 20 = .ok (.aload_n 0, 1) by decide +kernel) rfl rfl ?_
  refine x_getR (pc := 21) f0_15 rfl rfl (show decode mX0_copyFrom.2.1 21 = .ok (.getfield 15, 3) by decide +kernel) ?_
  refine x_iconst (pc := 24) (n := 0) (show decode mX0_copyFrom.2.1 24 = .ok (.iconst 0, 1) by decide +kernel) ?_
  refine x_bipush (pc := 25) (n := 24) (show decode mX0_copyFrom.2.1 25 = .ok (.bipush 24, 2) by decide +kernel) rfl ?_
  refine x_copy (pc := 27) rfl rfl (tblG_m4 220 rfl rfl) ac_native ac_static ac_init (by decide) (Nat.le_of_ble_eq_true rfl) hd (show decode mX0_copyFrom.2.1 27 = .ok (.invokestatic 35, 3) by decide +kernel) ?_
  refine x_aload_n (pc := 30) (show decode mX0_copyFrom.2.1 30 = .ok (.aload_n 0, 1) by decide +kernel) rfl rfl ?_
  refine x_aload_n (pc := 31) (show decode mX0_copyFrom.2.1 31 = .ok (.aload_n 1, 1) by decide +kernel) rfl rfl ?_
  refine x_getL (pc := 32) (ki := 2) f0_18 rfl rfl rfl (show decode mX0_copyFrom.2.1 32 = .ok (.getfield 18, 3) by decide +kernel) ?_
  refine x_putL (pc := 35) (ki := 2) f0_18 fp0_2 rfl rfl rfl (show decode mX0_copyFrom.2.1 35 = .ok (.putfield 18, 3) by decide +kernel) ?_
  refine x_aload_n (pc := 38) (show decode mX0_copyFrom.2.1 38 = .ok (.aload_n 0, 1) by decide +kernel) rfl rfl ?_
  refine x_aload_n (pc := 39) (show decode mX0_copyFrom.2.1 39 = .ok (.aload_n 1, 1) by decide +kernel) rfl rfl ?_
  refine x_getI (pc := 40) (ki := 3) f0_22 rfl rfl (by decide) rfl (show decode mX0_copyFrom.2.1 40 = .ok (.getfield 22, 3) by decide +kernel) ?_
  refine x_putI (pc := 43) (ki := 3) f0_22 fp0_3 rfl rfl rfl (show decode mX0_copyFrom.2.1 43 = .ok (.putfield 22, 3) by decide +kernel) ?_
  refine x_aload_n (pc := 46) (show decode mX0_copyFrom.2.1 46 = .ok (.aload_n 1, 1) by decide +kernel) rfl rfl ?_
  refine x_getR (pc := 47) f0_26 rfl rfl (show decode mX0_copyFrom.2.1 47 = .ok (.getfield 26, 3) by decide +kernel) ?_
  refine x_iconst (pc := 50) (n := 0) (show decode mX0_copyFrom.2.1 50 = .ok (.iconst 0, 1) by decide +kernel) ?_
  refine x_aload_n (pc := 51) (show decode mX0_copyFrom.2.1 51 = .ok (.aload_n 0, 1) by decide +kernel) rfl rfl ?_
  refine x_getR (pc := 52) f0_26 rfl rfl (show decode mX0_copyFrom.2.1 52 = .ok (.getfield 26, 3) by decide +kernel) ?_
  refine x_iconst (pc := 55) (n := 0) (show decode mX0_copyFrom.2.1 55 = .ok (.iconst 0, 1) by decide +kernel) ?_
  refine x_bipush (pc := 56) (n := 30) (show decode mX0_copyFrom.2.1 56 = .ok (.bipush 30, 2) by decide +kernel) rfl ?_
  refine x_copy (pc := 58) rfl rfl (tblG_m4 220 rfl rfl) ac_native ac_static ac_init (by decide) (Nat.le_of_ble_eq_true rfl) hd (show decode mX0_copyFrom.2.1 58 = .ok (.invokestatic 35, 3) by decide +kernel) ?_
  refine x_aload_n (pc := 61) (show decode mX0_copyFrom.2.1 61 = .ok (.aload_n 1, 1) by decide +kernel) rfl rfl ?_
  refine x_getR (pc := 62) f0_29 rfl rfl (show decode mX0_copyFrom.2.1 62 = .ok (.getfield 29, 3) by decide +kernel) ?_
  refine x_iconst (pc := 65) (n := 0) (show decode mX0_copyFrom.2.1 65 = .ok (.iconst 0, 1) by decide +kernel) ?_
  refine x_aload_n (pc := 66) (show decode mX0_copyFrom.2.1 66 = .ok (.aload_n 0, 1) by decide +kernel) rfl rfl ?_
  refine x_getR (pc := 67) f0_29 rfl rfl (show decode mX0_copyFrom.2.1 67 = .ok (.getfield 29, 3) by decide +kernel) ?_
  refine x_iconst (pc := 70) (n := 0) (show decode mX0_copyFrom.2.1 70 = .ok (.iconst 0, 1) by decide +kernel) ?_
  refine x_bipush (pc := 71) (n := 30) (show decode mX0_copyFrom.2.1 71 = .ok (.bipush 30, 2) by decide +kernel) rfl ?_
  refine x_copy (pc := 73) rfl rfl (tblG_m4 220 rfl rfl) ac_native ac_static ac_init (by decide) (Nat.le_of_ble_eq_true rfl) hd (show decode mX0_copyFrom.2.1 73 = .ok (.invokestatic 35, 3) by decide +kernel) ?_
  refine x_aload_n (pc := 76) (show decode mX0_copyFrom.2.1 76 = .ok (.aload_n 0, 1) by decide +kernel) rfl rfl ?_
  refine x_aload_n (pc := 77) (show decode mX0_copyFrom.2.1 77 = .ok (.aload_n 1, 1) by decide +kernel) rfl rfl ?_
  refine x_getI (pc := 78) (ki := 6) f0_32 rfl rfl (by decide) rfl (show decode mX0_copyFrom.2.1 78 = .ok (.getfield 32, 3) by decide +kernel) ?_
  refine x_putI (pc := 81) (ki := 6) f0_32 fp0_6 rfl rfl rfl (show decode mX0_copyFrom.2.1 81 = .ok (.putfield 32, 3) by decide +kernel) ?_
  exact x_vret (pc := 84) rfl (show decode mX0_copyFrom.2.1 84 = .ok (.return_, 1) by decide +kernel) ⟨rfl, hR⟩
set_option maxRecDepth 4000 in
theorem sg_X0_isDone_0 {d : Nat} {x1 : Int} {h : xH} {Q : Int → xH → Prop} (hd : 1 ≤ d)
    (hR : cI wdC (d - 1) mX7_hasPin [.inr (.inl (h 6 2)), .inl x1] h (fun r2 h1 => (r2 = 0 ∨ r2 = 1) ∧ Q r2 h1)) :
    gI wdC d mX0_isDone 0 [some (.inr (.inr 6)), some (.inl x1)] h Q := by
  unfold gI
  refine x_aload_n (pc := 0) (show decode mX0_isDone.2.1 0 = .ok (.aload_n 0, 1) by decide +kernel) rfl rfl ?_
  refine x_getL (pc := 1) (ki := 2) f0_18 rfl rfl rfl (show decode mX0_isDone.2.1 1 = .ok (.getfield 18, 3) by decide +kernel) ?_
  refine x_iload_n (pc := 4) (show decode mX0_isDone.2.1 4 = .ok (.iload_n 1, 1) by decide +kernel) rfl rfl ?_
  refine x_callSN (pc := 5) (As := [.inr (.inl (h 6 2)), .inl x1]) (rest := []) (lk0_41 rfl) sm_X7_hasPin (Nat.le_of_ble_eq_true rfl) (Nat.le_of_ble_eq_true rfl) (show decode mX0_isDone.2.1 5 = .ok (.invokestatic 41, 3) by decide +kernel) hd hR (fun r9 h1 hq => ?_)
  obtain ⟨r2, rfl, hR⟩ := hq
  show xG _ _ _ 8 _ [.inl r2] _ _
  exact x_zret (pc := 8) rfl (show decode mX0_isDone.2.1 8 = .ok (.ireturn, 1) by decide +kernel) hR.1 ⟨_, rfl, hR.2⟩
set_option maxRecDepth 4000 in
theorem sg_X0_lastWorked_0 {d : Nat} {h : xH} {Q : Int → xH → Prop}
    (hR : (0 ≤ ((h 6 3) - 1) ∧ ((h 6 3) - 1) < 30) ∧ Q (h 9 ((h 6 3) - 1)) h) :
    gI wdC d mX0_lastWorked 0 [some (.inr (.inr 6))] h Q := by
  unfold gI
  refine x_aload_n (pc := 0) (show decode mX0_lastWorked.2.1 0 = .ok (.aload_n 0, 1) by decide +kernel) rfl rfl ?_
  refine x_getR (pc := 1) f0_26 rfl rfl (show decode mX0_lastWorked.2.1 1 = .ok (.getfield 26, 3) by decide +kernel) ?_
  refine x_aload_n (pc := 4) (show decode mX0_lastWorked.2.1 4 = .ok (.aload_n 0, 1) by decide +kernel) rfl rfl ?_
  refine x_getI (pc := 5) (ki := 3) f0_22 rfl rfl (by decide) rfl (show decode mX0_lastWorked.2.1 5 = .ok (.getfield 22, 3) by decide +kernel) ?_
  refine x_iconst (pc := 8) (n := 1) (show decode mX0_lastWorked.2.1 8 = .ok (.iconst 1, 1) by decide +kernel) ?_
  refine x_isub (pc := 9) (show decode mX0_lastWorked.2.1 9 = .ok (.isub, 1) by decide +kernel) ?_
  obtain ⟨hg, hR⟩ := hR
  refine x_iald (pc := 10) rfl (by decide) hg (show decode mX0_lastWorked.2.1 10 = .ok (.iaload, 1) by decide +kernel) ?_
  exact x_iret (pc := 11) rfl (show decode mX0_lastWorked.2.1 11 = .ok (.ireturn, 1) by decide +kernel) ⟨_, rfl, hR⟩
set_option maxRecDepth 4000 in
theorem sg_X0_workPin_0 {d : Nat} {x1 x2 x3 : Int} {h : xH} {Q : xH → Prop}
    (hR : (inI (h 6 3)) ∧ ((h 6 3) < 30 → gV wdC d mX0_workPin 18 [some (.inr (.inr 6)), some (.inl x1), some (.inl x2), some (.inl x3), some (.inl (2 * x2)), some (.inl 0)] h Q) ∧ (30 ≤ (h 6 3) → Q h)) :
    gV wdC d mX0_workPin 0 [some (.inr (.inr 6)), some (.inl x1), some (.inl x2), some (.inl x3), none, none] h Q := by
  unfold gV
  refine x_aload_n (pc := 0) (show decode mX0_workPin.2.1 0 = .ok (.aload_n 0, 1) by decide +kernel) rfl rfl ?_
  refine x_getI (pc := 1) (ki := 3) f0_22 rfl rfl (by decide) rfl (show decode mX0_workPin.2.1 1 = .ok (.getfield 22, 3) by decide +kernel) ?_
  refine x_bipush (pc := 4) (n := 30) (show decode mX0_workPin.2.1 4 = .ok (.bipush 30, 2) by decide +kernel) rfl ?_
  obtain ⟨hg, hR⟩ := hR
  refine x_icmp_lt (pc := 6) (tgt := 10) (show decode mX0_workPin.2.1 6 = .ok (.if_icmp .lt 4, 3) by decide +kernel) (by decide) ⟨hg, (by unfold inI; decide)⟩ (fun hc => ?_) (fun hc => ?_)
  · replace hR := hR.1 hc
    refine x_iconst (pc := 10) (n := 2) (show decode mX0_workPin.2.1 10 = .ok (.iconst 2, 1) by decide +kernel) ?_
    refine x_iload_n (pc := 11) (show decode mX0_workPin.2.1 11 = .ok (.iload_n 2, 1) by decide +kernel) rfl rfl ?_
    refine x_imul (pc := 12) (show decode mX0_workPin.2.1 12 = .ok (.imul, 1) by decide +kernel) ?_
    refine x_istore (pc := 13) (ls' := [some (.inr (.inr 6)), some (.inl x1), some (.inl x2), some (.inl x3), some (.inl (2 * x2)), none]) (show decode mX0_workPin.2.1 13 = .ok (.istore 4, 2) by decide +kernel) (by decide) rfl ?_
    refine x_iconst (pc := 15) (n := 0) (show decode mX0_workPin.2.1 15 = .ok (.iconst 0, 1) by decide +kernel) ?_
    refine x_istore (pc := 16) (ls' := [some (.inr (.inr 6)), some (.inl x1), some (.inl x2), some (.inl x3), some (.inl (2 * x2)), some (.inl 0)]) (show decode mX0_workPin.2.1 16 = .ok (.istore 5, 2) by decide +kernel) (by decide) rfl ?_
    exact hR
  · replace hR := hR.2 hc
    exact x_vret (pc := 9) rfl (show decode mX0_workPin.2.1 9 = .ok (.return_, 1) by decide +kernel) ⟨rfl, hR⟩
set_option maxRecDepth 4000 in
theorem sg_X0_workPin_18 {d : Nat} {x1 x2 x3 x4 x5 : Int} {h : xH} {Q : xH → Prop} (hd : 1 ≤ d)
    (hR : cI wdC (d - 1) mX7_actCount [.inl x3] h (fun r2 h1 => (inI x5 ∧ inI r2) ∧ (r2 ≤ x5 → (0 ≤ (h1 6 3) ∧ (h1 6 3) < 30) ∧ (0 ≤ (h1 6 3) ∧ (h1 6 3) < 30) ∧ cL wdC (d - 1) mX7_pinBit [.inl x1] (xu (xu (xu h1 9 (h1 6 3) x1) 10 (h1 6 3) (h1 6 6)) 6 3 ((h1 6 3) + 1)) (fun r4 h3 => Q (xu (xu h3 6 2 (xorL (h1 6 2) r4)) 6 6 x2))) ∧ (x5 < r2 → cB wdC (d - 1) mX7_isCrossAct [.inl x3, .inl x5] h1 (fun h5 => cV wdC (d - 1) mX0_goOver [.inr (.inr 6), .inl (x4 + 1), .inl (x4 + 2)] h5 (fun h6 => gV wdC d mX0_workPin 18 [some (.inr (.inr 6)), some (.inl x1), some (.inl x2), some (.inl x3), some (.inl x4), some (.inl (x5 + 1))] h6 Q)) (fun h5 => cV wdC (d - 1) mX0_goOver [.inr (.inr 6), .inl (x4 + 1), .inl x4] h5 (fun h7 => cV wdC (d - 1) mX0_goOver [.inr (.inr 6), .inl (x4 + 3), .inl (x4 + 2)] h7 (fun h8 => gV wdC d mX0_workPin 18 [some (.inr (.inr 6)), some (.inl x1), some (.inl x2), some (.inl x3), some (.inl x4), some (.inl (x5 + 1))] h8 Q)))))) :
    gV wdC d mX0_workPin 18 [some (.inr (.inr 6)), some (.inl x1), some (.inl x2), some (.inl x3), some (.inl x4), some (.inl x5)] h Q := by
  unfold gV
  refine x_iload (pc := 18) (show decode mX0_workPin.2.1 18 = .ok (.iload 5, 2) by decide +kernel) rfl ?_
  refine x_iload_n (pc := 20) (show decode mX0_workPin.2.1 20 = .ok (.iload_n 3, 1) by decide +kernel) rfl rfl ?_
  refine x_callSN (pc := 21) (As := [.inl x3]) (rest := [.inl x5]) (lk0_45 rfl) sm_X7_actCount (Nat.le_of_ble_eq_true rfl) (Nat.le_of_ble_eq_true rfl) (show decode mX0_workPin.2.1 21 = .ok (.invokestatic 45, 3) by decide +kernel) hd hR (fun r9 h1 hq => ?_)
  obtain ⟨r2, rfl, hR⟩ := hq
  show xG _ _ _ 24 _ [.inl r2, .inl x5] _ _
  obtain ⟨hg, hR⟩ := hR
  refine x_icmp_ge (pc := 24) (tgt := 79) (show decode mX0_workPin.2.1 24 = .ok (.if_icmp .ge 55, 3) by decide +kernel) (by decide) ⟨hg.1, hg.2⟩ (fun hc => ?_) (fun hc => ?_)
  · replace hR := hR.1 hc
    refine x_aload_n (pc := 79) (show decode mX0_workPin.2.1 79 = .ok (.aload_n 0, 1) by decide +kernel) rfl rfl ?_
    refine x_getR (pc := 80) f0_26 rfl rfl (show decode mX0_workPin.2.1 80 = .ok (.getfield 26, 3) by decide +kernel) ?_
    refine x_aload_n (pc := 83) (show decode mX0_workPin.2.1 83 = .ok (.aload_n 0, 1) by decide +kernel) rfl rfl ?_
    refine x_getI (pc := 84) (ki := 3) f0_22 rfl rfl (by decide) rfl (show decode mX0_workPin.2.1 84 = .ok (.getfield 22, 3) by decide +kernel) ?_
    refine x_iload_n (pc := 87) (show decode mX0_workPin.2.1 87 = .ok (.iload_n 1, 1) by decide +kernel) rfl rfl ?_
    obtain ⟨hg, hR⟩ := hR
    refine x_iast (pc := 88) rfl (by decide) hg (show decode mX0_workPin.2.1 88 = .ok (.iastore, 1) by decide +kernel) ?_
    refine x_aload_n (pc := 89) (show decode mX0_workPin.2.1 89 = .ok (.aload_n 0, 1) by decide +kernel) rfl rfl ?_
    refine x_getR (pc := 90) f0_29 rfl rfl (show decode mX0_workPin.2.1 90 = .ok (.getfield 29, 3) by decide +kernel) ?_
    refine x_aload_n (pc := 93) (show decode mX0_workPin.2.1 93 = .ok (.aload_n 0, 1) by decide +kernel) rfl rfl ?_
    refine x_getI (pc := 94) (ki := 3) f0_22 rfl rfl (by decide) rfl (show decode mX0_workPin.2.1 94 = .ok (.getfield 22, 3) by decide +kernel) ?_
    refine x_aload_n (pc := 97) (show decode mX0_workPin.2.1 97 = .ok (.aload_n 0, 1) by decide +kernel) rfl rfl ?_
    refine x_getI (pc := 98) (ki := 6) f0_32 rfl rfl (by decide) rfl (show decode mX0_workPin.2.1 98 = .ok (.getfield 32, 3) by decide +kernel) ?_
    obtain ⟨hg, hR⟩ := hR
    refine x_iast (pc := 101) rfl (by decide) hg (show decode mX0_workPin.2.1 101 = .ok (.iastore, 1) by decide +kernel) ?_
    refine x_aload_n (pc := 102) (show decode mX0_workPin.2.1 102 = .ok (.aload_n 0, 1) by decide +kernel) rfl rfl ?_
    refine x_dup (pc := 103) (show decode mX0_workPin.2.1 103 = .ok (.dup, 1) by decide +kernel) rfl ?_
    refine x_getI (pc := 104) (ki := 3) f0_22 rfl rfl (by decide) rfl (show decode mX0_workPin.2.1 104 = .ok (.getfield 22, 3) by decide +kernel) ?_
    refine x_iconst (pc := 107) (n := 1) (show decode mX0_workPin.2.1 107 = .ok (.iconst 1, 1) by decide +kernel) ?_
    refine x_iadd (pc := 108) (show decode mX0_workPin.2.1 108 = .ok (.iadd, 1) by decide +kernel) ?_
    refine x_putI (pc := 109) (ki := 3) f0_22 fp0_3 rfl rfl rfl (show decode mX0_workPin.2.1 109 = .ok (.putfield 22, 3) by decide +kernel) ?_
    refine x_aload_n (pc := 112) (show decode mX0_workPin.2.1 112 = .ok (.aload_n 0, 1) by decide +kernel) rfl rfl ?_
    refine x_dup (pc := 113) (show decode mX0_workPin.2.1 113 = .ok (.dup, 1) by decide +kernel) rfl ?_
    refine x_getL (pc := 114) (ki := 2) f0_18 rfl rfl rfl (show decode mX0_workPin.2.1 114 = .ok (.getfield 18, 3) by decide +kernel) ?_
    refine x_iload_n (pc := 117) (show decode mX0_workPin.2.1 117 = .ok (.iload_n 1, 1) by decide +kernel) rfl rfl ?_
    refine x_callSN (pc := 118) (As := [.inl x1]) (rest := [.inr (.inl (h1 6 2)), .inr (.inr 6)]) (lk0_57 rfl) sm_X7_pinBit (Nat.le_of_ble_eq_true rfl) (Nat.le_of_ble_eq_true rfl) (show decode mX0_workPin.2.1 118 = .ok (.invokestatic 57, 3) by decide +kernel) hd hR (fun r9 h3 hq => ?_)
    obtain ⟨r4, rfl, hR⟩ := hq
    show xG _ _ _ 121 _ [.inr (.inl r4), .inr (.inl (h1 6 2)), .inr (.inr 6)] _ _
    refine x_lor (pc := 121) (show decode mX0_workPin.2.1 121 = .ok (.lor, 1) by decide +kernel) ?_
    refine x_putL (pc := 122) (ki := 2) f0_18 fp0_2 rfl rfl rfl (show decode mX0_workPin.2.1 122 = .ok (.putfield 18, 3) by decide +kernel) ?_
    refine x_aload_n (pc := 125) (show decode mX0_workPin.2.1 125 = .ok (.aload_n 0, 1) by decide +kernel) rfl rfl ?_
    refine x_iload_n (pc := 126) (show decode mX0_workPin.2.1 126 = .ok (.iload_n 2, 1) by decide +kernel) rfl rfl ?_
    refine x_putI (pc := 127) (ki := 6) f0_32 fp0_6 rfl rfl rfl (show decode mX0_workPin.2.1 127 = .ok (.putfield 32, 3) by decide +kernel) ?_
    exact x_vret (pc := 130) rfl (show decode mX0_workPin.2.1 130 = .ok (.return_, 1) by decide +kernel) ⟨rfl, hR⟩
  · replace hR := hR.2 hc
    refine x_iload_n (pc := 27) (show decode mX0_workPin.2.1 27 = .ok (.iload_n 3, 1) by decide +kernel) rfl rfl ?_
    refine x_iload (pc := 28) (show decode mX0_workPin.2.1 28 = .ok (.iload 5, 2) by decide +kernel) rfl ?_
    refine x_callSN (pc := 30) (As := [.inl x3, .inl x5]) (rest := []) (lk0_49 rfl) sm_X7_isCrossAct (Nat.le_of_ble_eq_true rfl) (Nat.le_of_ble_eq_true rfl) (show decode mX0_workPin.2.1 30 = .ok (.invokestatic 49, 3) by decide +kernel) hd hR (fun r9 h5 hq => ?_)
    obtain ⟨r8, rfl, hq⟩ := hq
    rcases hq with ⟨rfl, hR⟩ | ⟨rfl, hR⟩
    · show xG _ _ _ 33 _ [.inl 1] _ _
      refine x_if_eq (pc := 33) (tgt := 51) (show decode mX0_workPin.2.1 33 = .ok (.ifCond .eq 18, 3) by decide +kernel) (by decide) (by unfold inI; decide) (fun hc => absurd hc (by decide)) (fun _ => ?_)
      refine x_aload_n (pc := 36) (show decode mX0_workPin.2.1 36 = .ok (.aload_n 0, 1) by decide +kernel) rfl rfl ?_
      refine x_iload (pc := 37) (show decode mX0_workPin.2.1 37 = .ok (.iload 4, 2) by decide +kernel) rfl ?_
      refine x_iconst (pc := 39) (n := 1) (show decode mX0_workPin.2.1 39 = .ok (.iconst 1, 1) by decide +kernel) ?_
      refine x_iadd (pc := 40) (show decode mX0_workPin.2.1 40 = .ok (.iadd, 1) by decide +kernel) ?_
      refine x_iload (pc := 41) (show decode mX0_workPin.2.1 41 = .ok (.iload 4, 2) by decide +kernel) rfl ?_
      refine x_iconst (pc := 43) (n := 2) (show decode mX0_workPin.2.1 43 = .ok (.iconst 2, 1) by decide +kernel) ?_
      refine x_iadd (pc := 44) (show decode mX0_workPin.2.1 44 = .ok (.iadd, 1) by decide +kernel) ?_
      refine x_callV (pc := 45) (As := [.inl (x4 + 1), .inl (x4 + 2)]) (rest := []) (lk0_53 rfl) im_X0_goOver sl_X0_goOver rfl rfl rfl (Nat.le_of_ble_eq_true rfl) (Nat.le_of_ble_eq_true rfl) (show decode mX0_workPin.2.1 45 = .ok (.invokevirtual 53, 3) by decide +kernel) hd hR (fun r9 h6 hq => ?_)
      obtain ⟨rfl, hR⟩ := hq
      show xG _ _ _ 48 _ [] _ _
      refine x_goto (pc := 48) (tgt := 73) (show decode mX0_workPin.2.1 48 = .ok (.goto 25, 3) by decide +kernel) (by decide) ?_
      refine x_iinc (pc := 73) (ls' := [some (.inr (.inr 6)), some (.inl x1), some (.inl x2), some (.inl x3), some (.inl x4), some (.inl (x5 + 1))]) (show decode mX0_workPin.2.1 73 = .ok (.iinc 5 1, 3) by decide +kernel) (by decide) rfl rfl ?_
      refine x_goto (pc := 76) (tgt := 18) (show decode mX0_workPin.2.1 76 = .ok (.goto (-58), 3) by decide +kernel) (by decide) ?_
      exact hR
    · show xG _ _ _ 33 _ [.inl 0] _ _
      refine x_if_eq (pc := 33) (tgt := 51) (show decode mX0_workPin.2.1 33 = .ok (.ifCond .eq 18, 3) by decide +kernel) (by decide) (by unfold inI; decide) (fun _ => ?_) (fun hc => absurd hc (by decide))
      refine x_aload_n (pc := 51) (show decode mX0_workPin.2.1 51 = .ok (.aload_n 0, 1) by decide +kernel) rfl rfl ?_
      refine x_iload (pc := 52) (show decode mX0_workPin.2.1 52 = .ok (.iload 4, 2) by decide +kernel) rfl ?_
      refine x_iconst (pc := 54) (n := 1) (show decode mX0_workPin.2.1 54 = .ok (.iconst 1, 1) by decide +kernel) ?_
      refine x_iadd (pc := 55) (show decode mX0_workPin.2.1 55 = .ok (.iadd, 1) by decide +kernel) ?_
      refine x_iload (pc := 56) (show decode mX0_workPin.2.1 56 = .ok (.iload 4, 2) by decide +kernel) rfl ?_
      refine x_callV (pc := 58) (As := [.inl (x4 + 1), .inl x4]) (rest := []) (lk0_53 rfl) im_X0_goOver sl_X0_goOver rfl rfl rfl (Nat.le_of_ble_eq_true rfl) (Nat.le_of_ble_eq_true rfl) (show decode mX0_workPin.2.1 58 = .ok (.invokevirtual 53, 3) by decide +kernel) hd hR (fun r9 h7 hq => ?_)
      obtain ⟨rfl, hR⟩ := hq
      show xG _ _ _ 61 _ [] _ _
      refine x_aload_n (pc := 61) (show decode mX0_workPin.2.1 61 = .ok (.aload_n 0, 1) by decide +kernel) rfl rfl ?_
      refine x_iload (pc := 62) (show decode mX0_workPin.2.1 62 = .ok (.iload 4, 2) by decide +kernel) rfl ?_
      refine x_iconst (pc := 64) (n := 3) (show decode mX0_workPin.2.1 64 = .ok (.iconst 3, 1) by decide +kernel) ?_
      refine x_iadd (pc := 65) (show decode mX0_workPin.2.1 65 = .ok (.iadd, 1) by decide +kernel) ?_
      refine x_iload (pc := 66) (show decode mX0_workPin.2.1 66 = .ok (.iload 4, 2) by decide +kernel) rfl ?_
      refine x_iconst (pc := 68) (n := 2) (show decode mX0_workPin.2.1 68 = .ok (.iconst 2, 1) by decide +kernel) ?_
      refine x_iadd (pc := 69) (show decode mX0_workPin.2.1 69 = .ok (.iadd, 1) by decide +kernel) ?_
      refine x_callV (pc := 70) (As := [.inl (x4 + 3), .inl (x4 + 2)]) (rest := []) (lk0_53 rfl) im_X0_goOver sl_X0_goOver rfl rfl rfl (Nat.le_of_ble_eq_true rfl) (Nat.le_of_ble_eq_true rfl) (show decode mX0_workPin.2.1 70 = .ok (.invokevirtual 53, 3) by decide +kernel) hd hR (fun r9 h8 hq => ?_)
      obtain ⟨rfl, hR⟩ := hq
      show xG _ _ _ 73 _ [] _ _
      refine x_iinc (pc := 73) (ls' := [some (.inr (.inr 6)), some (.inl x1), some (.inl x2), some (.inl x3), some (.inl x4), some (.inl (x5 + 1))]) (show decode mX0_workPin.2.1 73 = .ok (.iinc 5 1, 3) by decide +kernel) (by decide) rfl rfl ?_
      refine x_goto (pc := 76) (tgt := 18) (show decode mX0_workPin.2.1 76 = .ok (.goto (-58), 3) by decide +kernel) (by decide) ?_
      exact hR
set_option maxRecDepth 4000 in
theorem sg_X0_unwork_0 {d : Nat} {x1 x2 x3 : Int} {h : xH} {Q : xH → Prop} (hd : 1 ≤ d)
    (hR : (inI (h 6 3)) ∧ (0 < (h 6 3) → cI wdC (d - 1) mX7_actCount [.inl x3] h (fun r2 h1 => gV wdC d mX0_unwork 21 [some (.inr (.inr 6)), some (.inl x1), none, some (.inl x3), some (.inl (2 * x2)), some (.inl (r2 - 1))] h1 Q)) ∧ ((h 6 3) ≤ 0 → Q h)) :
    gV wdC d mX0_unwork 0 [some (.inr (.inr 6)), some (.inl x1), some (.inl x2), some (.inl x3), none, none] h Q := by
  unfold gV
  refine x_aload_n (pc := 0) (show decode mX0_unwork.2.1 0 = .ok (.aload_n 0, 1) by decide +kernel) rfl rfl ?_
  refine x_getI (pc := 1) (ki := 3) f0_22 rfl rfl (by decide) rfl (show decode mX0_unwork.2.1 1 = .ok (.getfield 22, 3) by decide +kernel) ?_
  obtain ⟨hg, hR⟩ := hR
  refine x_if_gt (pc := 4) (tgt := 8) (show decode mX0_unwork.2.1 4 = .ok (.ifCond .gt 4, 3) by decide +kernel) (by decide) hg (fun hc => ?_) (fun hc => ?_)
  · replace hR := hR.1 hc
    refine x_iconst (pc := 8) (n := 2) (show decode mX0_unwork.2.1 8 = .ok (.iconst 2, 1) by decide +kernel) ?_
    refine x_iload_n (pc := 9) (show decode mX0_unwork.2.1 9 = .ok (.iload_n 2, 1) by decide +kernel) rfl rfl ?_
    refine x_imul (pc := 10) (show decode mX0_unwork.2.1 10 = .ok (.imul, 1) by decide +kernel) ?_
    refine x_istore (pc := 11) (ls' := [some (.inr (.inr 6)), some (.inl x1), some (.inl x2), some (.inl x3), some (.inl (2 * x2)), none]) (show decode mX0_unwork.2.1 11 = .ok (.istore 4, 2) by decide +kernel) (by decide) rfl ?_
    refine x_iload_n (pc := 13) (show decode mX0_unwork.2.1 13 = .ok (.iload_n 3, 1) by decide +kernel) rfl rfl ?_
    refine x_callSN (pc := 14) (As := [.inl x3]) (rest := []) (lk0_45 rfl) sm_X7_actCount (Nat.le_of_ble_eq_true rfl) (Nat.le_of_ble_eq_true rfl) (show decode mX0_unwork.2.1 14 = .ok (.invokestatic 45, 3) by decide +kernel) hd hR (fun r9 h1 hq => ?_)
    obtain ⟨r2, rfl, hR⟩ := hq
    show xG _ _ _ 17 _ [.inl r2] _ _
    refine x_iconst (pc := 17) (n := 1) (show decode mX0_unwork.2.1 17 = .ok (.iconst 1, 1) by decide +kernel) ?_
    refine x_isub (pc := 18) (show decode mX0_unwork.2.1 18 = .ok (.isub, 1) by decide +kernel) ?_
    refine x_istore (pc := 19) (ls' := [some (.inr (.inr 6)), some (.inl x1), some (.inl x2), some (.inl x3), some (.inl (2 * x2)), some (.inl (r2 - 1))]) (show decode mX0_unwork.2.1 19 = .ok (.istore 5, 2) by decide +kernel) (by decide) rfl ?_
    exact x_weak (xle_get (by repeat' constructor)) hR
  · replace hR := hR.2 hc
    exact x_vret (pc := 7) rfl (show decode mX0_unwork.2.1 7 = .ok (.return_, 1) by decide +kernel) ⟨rfl, hR⟩
set_option maxRecDepth 4000 in
theorem sg_X0_unwork_21 {d : Nat} {x1 x3 x4 x5 : Int} {h : xH} {Q : xH → Prop} (hd : 1 ≤ d)
    (hR : (inI x5) ∧ (x5 < 0 → cL wdC (d - 1) mX7_pinBit [.inl x1] (xu h 6 3 ((h 6 3) - 1)) (fun r2 h1 => (0 ≤ (h1 6 3) ∧ (h1 6 3) < 30) ∧ Q (xu (xu h1 6 2 (xandL (h 6 2) (xxorL r2 (-1)))) 6 6 (h1 10 (h1 6 3))))) ∧ (0 ≤ x5 → cB wdC (d - 1) mX7_isCrossAct [.inl x3, .inl x5] h (fun h3 => cV wdC (d - 1) mX0_goBack [.inr (.inr 6), .inl (x4 + 1), .inl (x4 + 2)] h3 (fun h4 => gV wdC d mX0_unwork 21 [some (.inr (.inr 6)), some (.inl x1), none, some (.inl x3), some (.inl x4), some (.inl (x5 + (-1)))] h4 Q)) (fun h3 => cV wdC (d - 1) mX0_goBack [.inr (.inr 6), .inl (x4 + 1), .inl x4] h3 (fun h5 => cV wdC (d - 1) mX0_goBack [.inr (.inr 6), .inl (x4 + 3), .inl (x4 + 2)] h5 (fun h6 => gV wdC d mX0_unwork 21 [some (.inr (.inr 6)), some (.inl x1), none, some (.inl x3), some (.inl x4), some (.inl (x5 + (-1)))] h6 Q))))) :
    gV wdC d mX0_unwork 21 [some (.inr (.inr 6)), some (.inl x1), none, some (.inl x3), some (.inl x4), some (.inl x5)] h Q := by
  unfold gV
  refine x_iload (pc := 21) (show decode mX0_unwork.2.1 21 = .ok (.iload 5, 2) by decide +kernel) rfl ?_
  obtain ⟨hg, hR⟩ := hR
  refine x_if_lt (pc := 23) (tgt := 78) (show decode mX0_unwork.2.1 23 = .ok (.ifCond .lt 55, 3) by decide +kernel) (by decide) hg (fun hc => ?_) (fun hc => ?_)
  · replace hR := hR.1 hc
    refine x_aload_n (pc := 78) (show decode mX0_unwork.2.1 78 = .ok (.aload_n 0, 1) by decide +kernel) rfl rfl ?_
    refine x_dup (pc := 79) (show decode mX0_unwork.2.1 79 = .ok (.dup, 1) by decide +kernel) rfl ?_
    refine x_getI (pc := 80) (ki := 3) f0_22 rfl rfl (by decide) rfl (show decode mX0_unwork.2.1 80 = .ok (.getfield 22, 3) by decide +kernel) ?_
    refine x_iconst (pc := 83) (n := 1) (show decode mX0_unwork.2.1 83 = .ok (.iconst 1, 1) by decide +kernel) ?_
    refine x_isub (pc := 84) (show decode mX0_unwork.2.1 84 = .ok (.isub, 1) by decide +kernel) ?_
    refine x_putI (pc := 85) (ki := 3) f0_22 fp0_3 rfl rfl rfl (show decode mX0_unwork.2.1 85 = .ok (.putfield 22, 3) by decide +kernel) ?_
    refine x_aload_n (pc := 88) (show decode mX0_unwork.2.1 88 = .ok (.aload_n 0, 1) by decide +kernel) rfl rfl ?_
    refine x_dup (pc := 89) (show decode mX0_unwork.2.1 89 = .ok (.dup, 1) by decide +kernel) rfl ?_
    refine x_getL (pc := 90) (ki := 2) f0_18 rfl rfl rfl (show decode mX0_unwork.2.1 90 = .ok (.getfield 18, 3) by decide +kernel) ?_
    refine x_iload_n (pc := 93) (show decode mX0_unwork.2.1 93 = .ok (.iload_n 1, 1) by decide +kernel) rfl rfl ?_
    refine x_callSN (pc := 94) (As := [.inl x1]) (rest := [.inr (.inl (h 6 2)), .inr (.inr 6)]) (lk0_57 rfl) sm_X7_pinBit (Nat.le_of_ble_eq_true rfl) (Nat.le_of_ble_eq_true rfl) (show decode mX0_unwork.2.1 94 = .ok (.invokestatic 57, 3) by decide +kernel) hd hR (fun r9 h1 hq => ?_)
    obtain ⟨r2, rfl, hR⟩ := hq
    show xG _ _ _ 97 _ [.inr (.inl r2), .inr (.inl (h 6 2)), .inr (.inr 6)] _ _
    refine x_ldc2 (pc := 97) (n := (-1)) (tblG_m3 76 rfl rfl) rfl (show decode mX0_unwork.2.1 97 = .ok (.ldc2_w 64, 3) by decide +kernel) ?_
    refine x_lxor (pc := 100) (show decode mX0_unwork.2.1 100 = .ok (.lxor, 1) by decide +kernel) ?_
    refine x_land (pc := 101) (show decode mX0_unwork.2.1 101 = .ok (.land, 1) by decide +kernel) ?_
    refine x_putL (pc := 102) (ki := 2) f0_18 fp0_2 rfl rfl rfl (show decode mX0_unwork.2.1 102 = .ok (.putfield 18, 3) by decide +kernel) ?_
    refine x_aload_n (pc := 105) (show decode mX0_unwork.2.1 105 = .ok (.aload_n 0, 1) by decide +kernel) rfl rfl ?_
    refine x_aload_n (pc := 106) (show decode mX0_unwork.2.1 106 = .ok (.aload_n 0, 1) by decide +kernel) rfl rfl ?_
    refine x_getR (pc := 107) f0_29 rfl rfl (show decode mX0_unwork.2.1 107 = .ok (.getfield 29, 3) by decide +kernel) ?_
    refine x_aload_n (pc := 110) (show decode mX0_unwork.2.1 110 = .ok (.aload_n 0, 1) by decide +kernel) rfl rfl ?_
    refine x_getI (pc := 111) (ki := 3) f0_22 rfl rfl (by decide) rfl (show decode mX0_unwork.2.1 111 = .ok (.getfield 22, 3) by decide +kernel) ?_
    obtain ⟨hg, hR⟩ := hR
    refine x_iald (pc := 114) rfl (by decide) hg (show decode mX0_unwork.2.1 114 = .ok (.iaload, 1) by decide +kernel) ?_
    refine x_putI (pc := 115) (ki := 6) f0_32 fp0_6 rfl rfl rfl (show decode mX0_unwork.2.1 115 = .ok (.putfield 32, 3) by decide +kernel) ?_
    exact x_vret (pc := 118) rfl (show decode mX0_unwork.2.1 118 = .ok (.return_, 1) by decide +kernel) ⟨rfl, hR⟩
  · replace hR := hR.2 hc
    refine x_iload_n (pc := 26) (show decode mX0_unwork.2.1 26 = .ok (.iload_n 3, 1) by decide +kernel) rfl rfl ?_
    refine x_iload (pc := 27) (show decode mX0_unwork.2.1 27 = .ok (.iload 5, 2) by decide +kernel) rfl ?_
    refine x_callSN (pc := 29) (As := [.inl x3, .inl x5]) (rest := []) (lk0_49 rfl) sm_X7_isCrossAct (Nat.le_of_ble_eq_true rfl) (Nat.le_of_ble_eq_true rfl) (show decode mX0_unwork.2.1 29 = .ok (.invokestatic 49, 3) by decide +kernel) hd hR (fun r9 h3 hq => ?_)
    obtain ⟨r8, rfl, hq⟩ := hq
    rcases hq with ⟨rfl, hR⟩ | ⟨rfl, hR⟩
    · show xG _ _ _ 32 _ [.inl 1] _ _
      refine x_if_eq (pc := 32) (tgt := 50) (show decode mX0_unwork.2.1 32 = .ok (.ifCond .eq 18, 3) by decide +kernel) (by decide) (by unfold inI; decide) (fun hc => absurd hc (by decide)) (fun _ => ?_)
      refine x_aload_n (pc := 35) (show decode mX0_unwork.2.1 35 = .ok (.aload_n 0, 1) by decide +kernel) rfl rfl ?_
      refine x_iload (pc := 36) (show decode mX0_unwork.2.1 36 = .ok (.iload 4, 2) by decide +kernel) rfl ?_
      refine x_iconst (pc := 38) (n := 1) (show decode mX0_unwork.2.1 38 = .ok (.iconst 1, 1) by decide +kernel) ?_
      refine x_iadd (pc := 39) (show decode mX0_unwork.2.1 39 = .ok (.iadd, 1) by decide +kernel) ?_
      refine x_iload (pc := 40) (show decode mX0_unwork.2.1 40 = .ok (.iload 4, 2) by decide +kernel) rfl ?_
      refine x_iconst (pc := 42) (n := 2) (show decode mX0_unwork.2.1 42 = .ok (.iconst 2, 1) by decide +kernel) ?_
      refine x_iadd (pc := 43) (show decode mX0_unwork.2.1 43 = .ok (.iadd, 1) by decide +kernel) ?_
      refine x_callV (pc := 44) (As := [.inl (x4 + 1), .inl (x4 + 2)]) (rest := []) (lk0_61 rfl) im_X0_goBack sl_X0_goBack rfl rfl rfl (Nat.le_of_ble_eq_true rfl) (Nat.le_of_ble_eq_true rfl) (show decode mX0_unwork.2.1 44 = .ok (.invokevirtual 61, 3) by decide +kernel) hd hR (fun r9 h4 hq => ?_)
      obtain ⟨rfl, hR⟩ := hq
      show xG _ _ _ 47 _ [] _ _
      refine x_goto (pc := 47) (tgt := 72) (show decode mX0_unwork.2.1 47 = .ok (.goto 25, 3) by decide +kernel) (by decide) ?_
      refine x_iinc (pc := 72) (ls' := [some (.inr (.inr 6)), some (.inl x1), none, some (.inl x3), some (.inl x4), some (.inl (x5 + (-1)))]) (show decode mX0_unwork.2.1 72 = .ok (.iinc 5 (-1), 3) by decide +kernel) (by decide) rfl rfl ?_
      refine x_goto (pc := 75) (tgt := 21) (show decode mX0_unwork.2.1 75 = .ok (.goto (-54), 3) by decide +kernel) (by decide) ?_
      exact hR
    · show xG _ _ _ 32 _ [.inl 0] _ _
      refine x_if_eq (pc := 32) (tgt := 50) (show decode mX0_unwork.2.1 32 = .ok (.ifCond .eq 18, 3) by decide +kernel) (by decide) (by unfold inI; decide) (fun _ => ?_) (fun hc => absurd hc (by decide))
      refine x_aload_n (pc := 50) (show decode mX0_unwork.2.1 50 = .ok (.aload_n 0, 1) by decide +kernel) rfl rfl ?_
      refine x_iload (pc := 51) (show decode mX0_unwork.2.1 51 = .ok (.iload 4, 2) by decide +kernel) rfl ?_
      refine x_iconst (pc := 53) (n := 1) (show decode mX0_unwork.2.1 53 = .ok (.iconst 1, 1) by decide +kernel) ?_
      refine x_iadd (pc := 54) (show decode mX0_unwork.2.1 54 = .ok (.iadd, 1) by decide +kernel) ?_
      refine x_iload (pc := 55) (show decode mX0_unwork.2.1 55 = .ok (.iload 4, 2) by decide +kernel) rfl ?_
      refine x_callV (pc := 57) (As := [.inl (x4 + 1), .inl x4]) (rest := []) (lk0_61 rfl) im_X0_goBack sl_X0_goBack rfl rfl rfl (Nat.le_of_ble_eq_true rfl) (Nat.le_of_ble_eq_true rfl) (show decode mX0_unwork.2.1 57 = .ok (.invokevirtual 61, 3) by decide +kernel) hd hR (fun r9 h5 hq => ?_)
      obtain ⟨rfl, hR⟩ := hq
      show xG _ _ _ 60 _ [] _ _
      refine x_aload_n (pc := 60) (show decode mX0_unwork.2.1 60 = .ok (.aload_n 0, 1) by decide +kernel) rfl rfl ?_
      refine x_iload (pc := 61) (show decode mX0_unwork.2.1 61 = .ok (.iload 4, 2) by decide +kernel) rfl ?_
      refine x_iconst (pc := 63) (n := 3) (show decode mX0_unwork.2.1 63 = .ok (.iconst 3, 1) by decide +kernel) ?_
      refine x_iadd (pc := 64) (show decode mX0_unwork.2.1 64 = .ok (.iadd, 1) by decide +kernel) ?_
      refine x_iload (pc := 65) (show decode mX0_unwork.2.1 65 = .ok (.iload 4, 2) by decide +kernel) rfl ?_
      refine x_iconst (pc := 67) (n := 2) (show decode mX0_unwork.2.1 67 = .ok (.iconst 2, 1) by decide +kernel) ?_
      refine x_iadd (pc := 68) (show decode mX0_unwork.2.1 68 = .ok (.iadd, 1) by decide +kernel) ?_
      refine x_callV (pc := 69) (As := [.inl (x4 + 3), .inl (x4 + 2)]) (rest := []) (lk0_61 rfl) im_X0_goBack sl_X0_goBack rfl rfl rfl (Nat.le_of_ble_eq_true rfl) (Nat.le_of_ble_eq_true rfl) (show decode mX0_unwork.2.1 69 = .ok (.invokevirtual 61, 3) by decide +kernel) hd hR (fun r9 h6 hq => ?_)
      obtain ⟨rfl, hR⟩ := hq
      show xG _ _ _ 72 _ [] _ _
      refine x_iinc (pc := 72) (ls' := [some (.inr (.inr 6)), some (.inl x1), none, some (.inl x3), some (.inl x4), some (.inl (x5 + (-1)))]) (show decode mX0_unwork.2.1 72 = .ok (.iinc 5 (-1), 3) by decide +kernel) (by decide) rfl rfl ?_
      refine x_goto (pc := 75) (tgt := 21) (show decode mX0_unwork.2.1 75 = .ok (.goto (-54), 3) by decide +kernel) (by decide) ?_
      exact hR
set_option maxRecDepth 4000 in
theorem sg_X0_goOver_0 {d : Nat} {x1 x2 : Int} {h : xH} {Q : xH → Prop} (hd : 1 ≤ d)
    (hR : (0 ≤ x1 ∧ x1 < 24) ∧ (0 ≤ (h 7 x1) ∧ (h 7 x1) < 24) ∧ (0 ≤ (h 7 x1) ∧ (h 7 x1) < 24) ∧ cV wdC (d - 1) mX0_changePlaces [.inr (.inr 6), .inl x1, .inl x2] (xu h 8 (h 7 x1) ((h 8 (h 7 x1)) + 1)) (fun h1 => Q h1)) :
    gV wdC d mX0_goOver 0 [some (.inr (.inr 6)), some (.inl x1), some (.inl x2)] h Q := by
  unfold gV
  refine x_aload_n (pc := 0) (show decode mX0_goOver.2.1 0 = .ok (.aload_n 0, 1) by decide +kernel) rfl rfl ?_
  refine x_getR (pc := 1) f0_15 rfl rfl (show decode mX0_goOver.2.1 1 = .ok (.getfield 15, 3) by decide +kernel) ?_
  refine x_aload_n (pc := 4) (show decode mX0_goOver.2.1 4 = .ok (.aload_n 0, 1) by decide +kernel) rfl rfl ?_
  refine x_getR (pc := 5) f0_9 rfl rfl (show decode mX0_goOver.2.1 5 = .ok (.getfield 9, 3) by decide +kernel) ?_
  refine x_iload_n (pc := 8) (show decode mX0_goOver.2.1 8 = .ok (.iload_n 1, 1) by decide +kernel) rfl rfl ?_
  obtain ⟨hg, hR⟩ := hR
  refine x_iald (pc := 9) rfl (by decide) hg (show decode mX0_goOver.2.1 9 = .ok (.iaload, 1) by decide +kernel) ?_
  refine x_dup2 (pc := 10) (show decode mX0_goOver.2.1 10 = .ok (.dup2, 1) by decide +kernel) rfl rfl ?_
  obtain ⟨hg, hR⟩ := hR
  refine x_iald (pc := 11) rfl (by decide) hg (show decode mX0_goOver.2.1 11 = .ok (.iaload, 1) by decide +kernel) ?_
  refine x_iconst (pc := 12) (n := 1) (show decode mX0_goOver.2.1 12 = .ok (.iconst 1, 1) by decide +kernel) ?_
  refine x_iadd (pc := 13) (show decode mX0_goOver.2.1 13 = .ok (.iadd, 1) by decide +kernel) ?_
  obtain ⟨hg, hR⟩ := hR
  refine x_iast (pc := 14) rfl (by decide) hg (show decode mX0_goOver.2.1 14 = .ok (.iastore, 1) by decide +kernel) ?_
  refine x_aload_n (pc := 15) (show decode mX0_goOver.2.1 15 = .ok (.aload_n 0, 1) by decide +kernel) rfl rfl ?_
  refine x_iload_n (pc := 16) (show decode mX0_goOver.2.1 16 = .ok (.iload_n 1, 1) by decide +kernel) rfl rfl ?_
  refine x_iload_n (pc := 17) (show decode mX0_goOver.2.1 17 = .ok (.iload_n 2, 1) by decide +kernel) rfl rfl ?_
  refine x_callV (pc := 18) (As := [.inl x1, .inl x2]) (rest := []) (lk0_66 rfl) im_X0_changePlaces sl_X0_changePlaces rfl rfl rfl (Nat.le_of_ble_eq_true rfl) (Nat.le_of_ble_eq_true rfl) (show decode mX0_goOver.2.1 18 = .ok (.invokevirtual 66, 3) by decide +kernel) hd hR (fun r9 h1 hq => ?_)
  obtain ⟨rfl, hR⟩ := hq
  show xG _ _ _ 21 _ [] _ _
  exact x_vret (pc := 21) rfl (show decode mX0_goOver.2.1 21 = .ok (.return_, 1) by decide +kernel) ⟨rfl, hR⟩
set_option maxRecDepth 4000 in
theorem sg_X0_goBack_0 {d : Nat} {x1 x2 : Int} {h : xH} {Q : xH → Prop} (hd : 1 ≤ d)
    (hR : cV wdC (d - 1) mX0_changePlaces [.inr (.inr 6), .inl x1, .inl x2] h (fun h1 => (0 ≤ x1 ∧ x1 < 24) ∧ (0 ≤ (h1 7 x1) ∧ (h1 7 x1) < 24) ∧ (0 ≤ (h1 7 x1) ∧ (h1 7 x1) < 24) ∧ Q (xu h1 8 (h1 7 x1) ((h1 8 (h1 7 x1)) - 1)))) :
    gV wdC d mX0_goBack 0 [some (.inr (.inr 6)), some (.inl x1), some (.inl x2)] h Q := by
  unfold gV
  refine x_aload_n (pc := 0) (show decode mX0_goBack.2.1 0 = .ok (.aload_n 0, 1) by decide +kernel) rfl rfl ?_
  refine x_iload_n (pc := 1) (show decode mX0_goBack.2.1 1 = .ok (.iload_n 1, 1) by decide +kernel) rfl rfl ?_
  refine x_iload_n (pc := 2) (show decode mX0_goBack.2.1 2 = .ok (.iload_n 2, 1) by decide +kernel) rfl rfl ?_
  refine x_callV (pc := 3) (As := [.inl x1, .inl x2]) (rest := []) (lk0_66 rfl) im_X0_changePlaces sl_X0_changePlaces rfl rfl rfl (Nat.le_of_ble_eq_true rfl) (Nat.le_of_ble_eq_true rfl) (show decode mX0_goBack.2.1 3 = .ok (.invokevirtual 66, 3) by decide +kernel) hd hR (fun r9 h1 hq => ?_)
  obtain ⟨rfl, hR⟩ := hq
  show xG _ _ _ 6 _ [] _ _
  refine x_aload_n (pc := 6) (show decode mX0_goBack.2.1 6 = .ok (.aload_n 0, 1) by decide +kernel) rfl rfl ?_
  refine x_getR (pc := 7) f0_15 rfl rfl (show decode mX0_goBack.2.1 7 = .ok (.getfield 15, 3) by decide +kernel) ?_
  refine x_aload_n (pc := 10) (show decode mX0_goBack.2.1 10 = .ok (.aload_n 0, 1) by decide +kernel) rfl rfl ?_
  refine x_getR (pc := 11) f0_9 rfl rfl (show decode mX0_goBack.2.1 11 = .ok (.getfield 9, 3) by decide +kernel) ?_
  refine x_iload_n (pc := 14) (show decode mX0_goBack.2.1 14 = .ok (.iload_n 1, 1) by decide +kernel) rfl rfl ?_
  obtain ⟨hg, hR⟩ := hR
  refine x_iald (pc := 15) rfl (by decide) hg (show decode mX0_goBack.2.1 15 = .ok (.iaload, 1) by decide +kernel) ?_
  refine x_dup2 (pc := 16) (show decode mX0_goBack.2.1 16 = .ok (.dup2, 1) by decide +kernel) rfl rfl ?_
  obtain ⟨hg, hR⟩ := hR
  refine x_iald (pc := 17) rfl (by decide) hg (show decode mX0_goBack.2.1 17 = .ok (.iaload, 1) by decide +kernel) ?_
  refine x_iconst (pc := 18) (n := 1) (show decode mX0_goBack.2.1 18 = .ok (.iconst 1, 1) by decide +kernel) ?_
  refine x_isub (pc := 19) (show decode mX0_goBack.2.1 19 = .ok (.isub, 1) by decide +kernel) ?_
  obtain ⟨hg, hR⟩ := hR
  refine x_iast (pc := 20) rfl (by decide) hg (show decode mX0_goBack.2.1 20 = .ok (.iastore, 1) by decide +kernel) ?_
  exact x_vret (pc := 21) rfl (show decode mX0_goBack.2.1 21 = .ok (.return_, 1) by decide +kernel) ⟨rfl, hR⟩
set_option maxRecDepth 4000 in
theorem sg_X0_changePlaces_0 {d : Nat} {x1 x2 : Int} {h : xH} {Q : xH → Prop}
    (hR : (0 ≤ x1 ∧ x1 < 24) ∧ (0 ≤ x2 ∧ x2 < 24) ∧ (0 ≤ x1 ∧ x1 < 24) ∧ (0 ≤ x2 ∧ x2 < 24) ∧ Q (xu (xu h 7 x1 (h 7 x2)) 7 x2 (h 7 x1))) :
    gV wdC d mX0_changePlaces 0 [some (.inr (.inr 6)), some (.inl x1), some (.inl x2), none] h Q := by
  unfold gV
  refine x_aload_n (pc := 0) (show decode mX0_changePlaces.2.1 0 = .ok (.aload_n 0, 1) by decide +kernel) rfl rfl ?_
  refine x_getR (pc := 1) f0_9 rfl rfl (show decode mX0_changePlaces.2.1 1 = .ok (.getfield 9, 3) by decide +kernel) ?_
  refine x_iload_n (pc := 4) (show decode mX0_changePlaces.2.1 4 = .ok (.iload_n 1, 1) by decide +kernel) rfl rfl ?_
  obtain ⟨hg, hR⟩ := hR
  refine x_iald (pc := 5) rfl (by decide) hg (show decode mX0_changePlaces.2.1 5 = .ok (.iaload, 1) by decide +kernel) ?_
  refine x_istore_n (pc := 6) (ls' := [some (.inr (.inr 6)), some (.inl x1), some (.inl x2), some (.inl (h 7 x1))]) (show decode mX0_changePlaces.2.1 6 = .ok (.istore_n 3, 1) by decide +kernel) rfl (by decide) rfl ?_
  refine x_aload_n (pc := 7) (show decode mX0_changePlaces.2.1 7 = .ok (.aload_n 0, 1) by decide +kernel) rfl rfl ?_
  refine x_getR (pc := 8) f0_9 rfl rfl (show decode mX0_changePlaces.2.1 8 = .ok (.getfield 9, 3) by decide +kernel) ?_
  refine x_iload_n (pc := 11) (show decode mX0_changePlaces.2.1 11 = .ok (.iload_n 1, 1) by decide +kernel) rfl rfl ?_
  refine x_aload_n (pc := 12) (show decode mX0_changePlaces.2.1 12 = .ok (.aload_n 0, 1) by decide +kernel) rfl rfl ?_
  refine x_getR (pc := 13) f0_9 rfl rfl (show decode mX0_changePlaces.2.1 13 = .ok (.getfield 9, 3) by decide +kernel) ?_
  refine x_iload_n (pc := 16) (show decode mX0_changePlaces.2.1 16 = .ok (.iload_n 2, 1) by decide +kernel) rfl rfl ?_
  obtain ⟨hg, hR⟩ := hR
  refine x_iald (pc := 17) rfl (by decide) hg (show decode mX0_changePlaces.2.1 17 = .ok (.iaload, 1) by decide +kernel) ?_
  obtain ⟨hg, hR⟩ := hR
  refine x_iast (pc := 18) rfl (by decide) hg (show decode mX0_changePlaces.2.1 18 = .ok (.iastore, 1) by decide +kernel) ?_
  refine x_aload_n (pc := 19) (show decode mX0_changePlaces.2.1 19 = .ok (.aload_n 0, 1) by decide +kernel) rfl rfl ?_
  refine x_getR (pc := 20) f0_9 rfl rfl (show decode mX0_changePlaces.2.1 20 = .ok (.getfield 9, 3) by decide +kernel) ?_
  refine x_iload_n (pc := 23) (show decode mX0_changePlaces.2.1 23 = .ok (.iload_n 2, 1) by decide +kernel) rfl rfl ?_
  refine x_iload_n (pc := 24) (show decode mX0_changePlaces.2.1 24 = .ok (.iload_n 3, 1) by decide +kernel) rfl rfl ?_
  obtain ⟨hg, hR⟩ := hR
  refine x_iast (pc := 25) rfl (by decide) hg (show decode mX0_changePlaces.2.1 25 = .ok (.iastore, 1) by decide +kernel) ?_
  exact x_vret (pc := 26) rfl (show decode mX0_changePlaces.2.1 26 = .ok (.return_, 1) by decide +kernel) ⟨rfl, hR⟩
set_option maxRecDepth 4000 in
theorem sg_X1_join_0 {d : Nat} {h : xH} {Q : xH → Prop} (hd : 1 ≤ d)
    (hR : cV wdC (d - 1) mX1_sortOut [.inr (.inr 39), .inr (.inr 1)] h (fun h1 => cV wdC (d - 1) mX1_weigh [.inr (.inr 39)] h1 (fun h2 => cV wdC (d - 1) mX1_choose [.inr (.inr 39)] h2 (fun h3 => Q h3)))) :
    gV wdC d mX1_join 0 [some (.inr (.inr 39)), some (.inr (.inr 1))] h Q := by
  unfold gV
  refine x_aload_n (pc := 0) (show decode mX1_join.2.1 0 = .ok (.aload_n 0, 1) by decide +kernel) rfl rfl ?_
  refine x_aload_n (pc := 1) (show decode mX1_join.2.1 1 = .ok (.aload_n 1, 1) by decide +kernel) rfl rfl ?_
  refine x_callV (pc := 2) (As := [.inr (.inr 1)]) (rest := []) (lk1_37 rfl) im_X1_sortOut sl_X1_sortOut rfl rfl rfl (Nat.le_of_ble_eq_true rfl) (Nat.le_of_ble_eq_true rfl) (show decode mX1_join.2.1 2 = .ok (.invokevirtual 37, 3) by decide +kernel) hd hR (fun r9 h1 hq => ?_)
  obtain ⟨rfl, hR⟩ := hq
  show xG _ _ _ 5 _ [] _ _
  refine x_aload_n (pc := 5) (show decode mX1_join.2.1 5 = .ok (.aload_n 0, 1) by decide +kernel) rfl rfl ?_
  refine x_callV (pc := 6) (As := []) (rest := []) (lk1_41 rfl) im_X1_weigh sl_X1_weigh rfl rfl rfl (Nat.le_of_ble_eq_true rfl) (Nat.le_of_ble_eq_true rfl) (show decode mX1_join.2.1 6 = .ok (.invokevirtual 41, 3) by decide +kernel) hd hR (fun r9 h2 hq => ?_)
  obtain ⟨rfl, hR⟩ := hq
  show xG _ _ _ 9 _ [] _ _
  refine x_aload_n (pc := 9) (show decode mX1_join.2.1 9 = .ok (.aload_n 0, 1) by decide +kernel) rfl rfl ?_
  refine x_callV (pc := 10) (As := []) (rest := []) (lk1_44 rfl) im_X1_choose sl_X1_choose rfl rfl rfl (Nat.le_of_ble_eq_true rfl) (Nat.le_of_ble_eq_true rfl) (show decode mX1_join.2.1 10 = .ok (.invokevirtual 44, 3) by decide +kernel) hd hR (fun r9 h3 hq => ?_)
  obtain ⟨rfl, hR⟩ := hq
  show xG _ _ _ 13 _ [] _ _
  exact x_vret (pc := 13) rfl (show decode mX1_join.2.1 13 = .ok (.return_, 1) by decide +kernel) ⟨rfl, hR⟩
set_option maxRecDepth 4000 in
theorem sg_X1_sortOut_0 {d : Nat} {h : xH} {Q : xH → Prop}
    (hR : gV wdC d mX1_sortOut 12 [some (.inr (.inr 39)), some (.inr (.inr 1)), some (.inl 0)] (xu (xu h 39 0 0) 39 1 0) Q) :
    gV wdC d mX1_sortOut 0 [some (.inr (.inr 39)), some (.inr (.inr 1)), none] h Q := by
  unfold gV
  refine x_aload_n (pc := 0) (show decode mX1_sortOut.2.1 0 = .ok (.aload_n 0, 1) by decide +kernel) rfl rfl ?_
  refine x_iconst (pc := 1) (n := 0) (show decode mX1_sortOut.2.1 1 = .ok (.iconst 0, 1) by decide +kernel) ?_
  refine x_putI (pc := 2) (ki := 0) f1_9 fp1_0 rfl rfl rfl (show decode mX1_sortOut.2.1 2 = .ok (.putfield 9, 3) by decide +kernel) ?_
  refine x_aload_n (pc := 5) (show decode mX1_sortOut.2.1 5 = .ok (.aload_n 0, 1) by decide +kernel) rfl rfl ?_
  refine x_iconst (pc := 6) (n := 0) (show decode mX1_sortOut.2.1 6 = .ok (.iconst 0, 1) by decide +kernel) ?_
  refine x_putI (pc := 7) (ki := 1) f1_15 fp1_1 rfl rfl rfl (show decode mX1_sortOut.2.1 7 = .ok (.putfield 15, 3) by decide +kernel) ?_
  refine x_iconst (pc := 10) (n := 0) (show decode mX1_sortOut.2.1 10 = .ok (.iconst 0, 1) by decide +kernel) ?_
  refine x_istore_n (pc := 11) (ls' := [some (.inr (.inr 39)), some (.inr (.inr 1)), some (.inl 0)]) (show decode mX1_sortOut.2.1 11 = .ok (.istore_n 2, 1) by decide +kernel) rfl (by decide) rfl ?_
  exact hR
set_option maxRecDepth 4000 in
theorem sg_X1_sortOut_12 {d : Nat} {x2 : Int} {h : xH} {Q : xH → Prop} (hd : 1 ≤ d)
    (hR : (inI x2 ∧ inI (h 1 6)) ∧ ((h 1 6) ≤ x2 → Q h) ∧ (x2 < (h 1 6) → cB wdC (d - 1) mX3_turnsFull [.inr (.inr 1), .inl x2] h (fun h1 => (0 ≤ x2 ∧ x2 < 10) ∧ (0 ≤ (h1 39 0) ∧ (h1 39 0) < 10) ∧ gV wdC d mX1_sortOut 12 [some (.inr (.inr 39)), some (.inr (.inr 1)), some (.inl (x2 + 1))] (xu (xu h1 40 (h1 39 0) (h1 5 x2)) 39 0 ((h1 39 0) + 1)) Q) (fun h1 => (0 ≤ x2 ∧ x2 < 10) ∧ (0 ≤ (h1 39 1) ∧ (h1 39 1) < 10) ∧ gV wdC d mX1_sortOut 12 [some (.inr (.inr 39)), some (.inr (.inr 1)), some (.inl (x2 + 1))] (xu (xu h1 41 (h1 39 1) (h1 5 x2)) 39 1 ((h1 39 1) + 1)) Q))) :
    gV wdC d mX1_sortOut 12 [some (.inr (.inr 39)), some (.inr (.inr 1)), some (.inl x2)] h Q := by
  unfold gV
  refine x_iload_n (pc := 12) (show decode mX1_sortOut.2.1 12 = .ok (.iload_n 2, 1) by decide +kernel) rfl rfl ?_
  refine x_aload_n (pc := 13) (show decode mX1_sortOut.2.1 13 = .ok (.aload_n 1, 1) by decide +kernel) rfl rfl ?_
  refine x_getI (pc := 14) (ki := 6) f1_47 rfl rfl (by decide) rfl (show decode mX1_sortOut.2.1 14 = .ok (.getfield 47, 3) by decide +kernel) ?_
  obtain ⟨hg, hR⟩ := hR
  refine x_icmp_ge (pc := 17) (tgt := 87) (show decode mX1_sortOut.2.1 17 = .ok (.if_icmp .ge 70, 3) by decide +kernel) (by decide) ⟨hg.1, hg.2⟩ (fun hc => ?_) (fun hc => ?_)
  · replace hR := hR.1 hc
    exact x_vret (pc := 87) rfl (show decode mX1_sortOut.2.1 87 = .ok (.return_, 1) by decide +kernel) ⟨rfl, hR⟩
  · replace hR := hR.2 hc
    refine x_aload_n (pc := 20) (show decode mX1_sortOut.2.1 20 = .ok (.aload_n 1, 1) by decide +kernel) rfl rfl ?_
    refine x_iload_n (pc := 21) (show decode mX1_sortOut.2.1 21 = .ok (.iload_n 2, 1) by decide +kernel) rfl rfl ?_
    refine x_callV (pc := 22) (As := [.inl x2]) (rest := []) (lk1_52 rfl) im_X3_turnsFull sl_X3_turnsFull rfl rfl rfl (Nat.le_of_ble_eq_true rfl) (Nat.le_of_ble_eq_true rfl) (show decode mX1_sortOut.2.1 22 = .ok (.invokevirtual 52, 3) by decide +kernel) hd hR (fun r9 h1 hq => ?_)
    obtain ⟨r8, rfl, hq⟩ := hq
    rcases hq with ⟨rfl, hR⟩ | ⟨rfl, hR⟩
    · show xG _ _ _ 25 _ [.inl 1] _ _
      refine x_if_eq (pc := 25) (tgt := 56) (show decode mX1_sortOut.2.1 25 = .ok (.ifCond .eq 31, 3) by decide +kernel) (by decide) (by unfold inI; decide) (fun hc => absurd hc (by decide)) (fun _ => ?_)
      refine x_aload_n (pc := 28) (show decode mX1_sortOut.2.1 28 = .ok (.aload_n 0, 1) by decide +kernel) rfl rfl ?_
      refine x_getR (pc := 29) f1_24 rfl rfl (show decode mX1_sortOut.2.1 29 = .ok (.getfield 24, 3) by decide +kernel) ?_
      refine x_aload_n (pc := 32) (show decode mX1_sortOut.2.1 32 = .ok (.aload_n 0, 1) by decide +kernel) rfl rfl ?_
      refine x_getI (pc := 33) (ki := 0) f1_9 rfl rfl (by decide) rfl (show decode mX1_sortOut.2.1 33 = .ok (.getfield 9, 3) by decide +kernel) ?_
      refine x_aload_n (pc := 36) (show decode mX1_sortOut.2.1 36 = .ok (.aload_n 1, 1) by decide +kernel) rfl rfl ?_
      refine x_getR (pc := 37) f1_56 rfl rfl (show decode mX1_sortOut.2.1 37 = .ok (.getfield 56, 3) by decide +kernel) ?_
      refine x_iload_n (pc := 40) (show decode mX1_sortOut.2.1 40 = .ok (.iload_n 2, 1) by decide +kernel) rfl rfl ?_
      obtain ⟨hg, hR⟩ := hR
      refine x_iald (pc := 41) rfl (by decide) hg (show decode mX1_sortOut.2.1 41 = .ok (.iaload, 1) by decide +kernel) ?_
      obtain ⟨hg, hR⟩ := hR
      refine x_iast (pc := 42) rfl (by decide) hg (show decode mX1_sortOut.2.1 42 = .ok (.iastore, 1) by decide +kernel) ?_
      refine x_aload_n (pc := 43) (show decode mX1_sortOut.2.1 43 = .ok (.aload_n 0, 1) by decide +kernel) rfl rfl ?_
      refine x_dup (pc := 44) (show decode mX1_sortOut.2.1 44 = .ok (.dup, 1) by decide +kernel) rfl ?_
      refine x_getI (pc := 45) (ki := 0) f1_9 rfl rfl (by decide) rfl (show decode mX1_sortOut.2.1 45 = .ok (.getfield 9, 3) by decide +kernel) ?_
      refine x_iconst (pc := 48) (n := 1) (show decode mX1_sortOut.2.1 48 = .ok (.iconst 1, 1) by decide +kernel) ?_
      refine x_iadd (pc := 49) (show decode mX1_sortOut.2.1 49 = .ok (.iadd, 1) by decide +kernel) ?_
      refine x_putI (pc := 50) (ki := 0) f1_9 fp1_0 rfl rfl rfl (show decode mX1_sortOut.2.1 50 = .ok (.putfield 9, 3) by decide +kernel) ?_
      refine x_goto (pc := 53) (tgt := 81) (show decode mX1_sortOut.2.1 53 = .ok (.goto 28, 3) by decide +kernel) (by decide) ?_
      refine x_iinc (pc := 81) (ls' := [some (.inr (.inr 39)), some (.inr (.inr 1)), some (.inl (x2 + 1))]) (show decode mX1_sortOut.2.1 81 = .ok (.iinc 2 1, 3) by decide +kernel) (by decide) rfl rfl ?_
      refine x_goto (pc := 84) (tgt := 12) (show decode mX1_sortOut.2.1 84 = .ok (.goto (-72), 3) by decide +kernel) (by decide) ?_
      exact hR
    · show xG _ _ _ 25 _ [.inl 0] _ _
      refine x_if_eq (pc := 25) (tgt := 56) (show decode mX1_sortOut.2.1 25 = .ok (.ifCond .eq 31, 3) by decide +kernel) (by decide) (by unfold inI; decide) (fun _ => ?_) (fun hc => absurd hc (by decide))
      refine x_aload_n (pc := 56) (show decode mX1_sortOut.2.1 56 = .ok (.aload_n 0, 1) by decide +kernel) rfl rfl ?_
      refine x_getR (pc := 57) f1_28 rfl rfl (show decode mX1_sortOut.2.1 57 = .ok (.getfield 28, 3) by decide +kernel) ?_
      refine x_aload_n (pc := 60) (show decode mX1_sortOut.2.1 60 = .ok (.aload_n 0, 1) by decide +kernel) rfl rfl ?_
      refine x_getI (pc := 61) (ki := 1) f1_15 rfl rfl (by decide) rfl (show decode mX1_sortOut.2.1 61 = .ok (.getfield 15, 3) by decide +kernel) ?_
      refine x_aload_n (pc := 64) (show decode mX1_sortOut.2.1 64 = .ok (.aload_n 1, 1) by decide +kernel) rfl rfl ?_
      refine x_getR (pc := 65) f1_56 rfl rfl (show decode mX1_sortOut.2.1 65 = .ok (.getfield 56, 3) by decide +kernel) ?_
      refine x_iload_n (pc := 68) (show decode mX1_sortOut.2.1 68 = .ok (.iload_n 2, 1) by decide +kernel) rfl rfl ?_
      obtain ⟨hg, hR⟩ := hR
      refine x_iald (pc := 69) rfl (by decide) hg (show decode mX1_sortOut.2.1 69 = .ok (.iaload, 1) by decide +kernel) ?_
      obtain ⟨hg, hR⟩ := hR
      refine x_iast (pc := 70) rfl (by decide) hg (show decode mX1_sortOut.2.1 70 = .ok (.iastore, 1) by decide +kernel) ?_
      refine x_aload_n (pc := 71) (show decode mX1_sortOut.2.1 71 = .ok (.aload_n 0, 1) by decide +kernel) rfl rfl ?_
      refine x_dup (pc := 72) (show decode mX1_sortOut.2.1 72 = .ok (.dup, 1) by decide +kernel) rfl ?_
      refine x_getI (pc := 73) (ki := 1) f1_15 rfl rfl (by decide) rfl (show decode mX1_sortOut.2.1 73 = .ok (.getfield 15, 3) by decide +kernel) ?_
      refine x_iconst (pc := 76) (n := 1) (show decode mX1_sortOut.2.1 76 = .ok (.iconst 1, 1) by decide +kernel) ?_
      refine x_iadd (pc := 77) (show decode mX1_sortOut.2.1 77 = .ok (.iadd, 1) by decide +kernel) ?_
      refine x_putI (pc := 78) (ki := 1) f1_15 fp1_1 rfl rfl rfl (show decode mX1_sortOut.2.1 78 = .ok (.putfield 15, 3) by decide +kernel) ?_
      refine x_iinc (pc := 81) (ls' := [some (.inr (.inr 39)), some (.inr (.inr 1)), some (.inl (x2 + 1))]) (show decode mX1_sortOut.2.1 81 = .ok (.iinc 2 1, 3) by decide +kernel) (by decide) rfl rfl ?_
      refine x_goto (pc := 84) (tgt := 12) (show decode mX1_sortOut.2.1 84 = .ok (.goto (-72), 3) by decide +kernel) (by decide) ?_
      exact hR
set_option maxRecDepth 4000 in
theorem sg_X1_mayJoin_0 {d : Nat} {x1 x2 x3 : Int} {h : xH} {Q : Int → xH → Prop} (hd : 1 ≤ d)
    (hR : (inI x3 ∧ 0 ≤ x2 ∧ x2 ≤ 31) ∧ (inI (xandI (x3 / 2 ^ (Int.toNat x2)) 1)) ∧ (¬ (xandI (x3 / 2 ^ (Int.toNat x2)) 1) = 0 → Q 0 h) ∧ ((xandI (x3 / 2 ^ (Int.toNat x2)) 1) = 0 → (0 ≤ x2 ∧ x2 < 10) ∧ cI wdC (d - 1) mX3_rowOfTurn [.inl (h 41 x2)] h (fun r2 h1 => (0 ≤ x1 ∧ x1 < 10) ∧ cI wdC (d - 1) mX3_rowOfTurn [.inl (h1 40 x1)] h1 (fun r4 h3 => (inI r2 ∧ inI r4) ∧ (r4 ≤ r2 → Q 0 h3) ∧ (r2 < r4 → Q 1 h3))))) :
    gI wdC d mX1_mayJoin 0 [some (.inr (.inr 39)), some (.inl x1), some (.inl x2), some (.inl x3)] h Q := by
  unfold gI
  refine x_iload_n (pc := 0) (show decode mX1_mayJoin.2.1 0 = .ok (.iload_n 3, 1) by decide +kernel) rfl rfl ?_
  refine x_iload_n (pc := 1) (show decode mX1_mayJoin.2.1 1 = .ok (.iload_n 2, 1) by decide +kernel) rfl rfl ?_
  obtain ⟨hg, hR⟩ := hR
  refine x_ishr (pc := 2) (show decode mX1_mayJoin.2.1 2 = .ok (.ishr, 1) by decide +kernel) hg ?_
  refine x_iconst (pc := 3) (n := 1) (show decode mX1_mayJoin.2.1 3 = .ok (.iconst 1, 1) by decide +kernel) ?_
  refine x_iand (pc := 4) (show decode mX1_mayJoin.2.1 4 = .ok (.iand, 1) by decide +kernel) ?_
  obtain ⟨hg, hR⟩ := hR
  refine x_if_ne (pc := 5) (tgt := 33) (show decode mX1_mayJoin.2.1 5 = .ok (.ifCond .ne 28, 3) by decide +kernel) (by decide) hg (fun hc => ?_) (fun hc => ?_)
  · replace hR := hR.1 hc
    refine x_iconst (pc := 33) (n := 0) (show decode mX1_mayJoin.2.1 33 = .ok (.iconst 0, 1) by decide +kernel) ?_
    exact x_zret (pc := 34) rfl (show decode mX1_mayJoin.2.1 34 = .ok (.ireturn, 1) by decide +kernel) (by decide) ⟨_, rfl, hR⟩
  · replace hR := hR.2 hc
    refine x_aload_n (pc := 8) (show decode mX1_mayJoin.2.1 8 = .ok (.aload_n 0, 1) by decide +kernel) rfl rfl ?_
    refine x_getR (pc := 9) f1_28 rfl rfl (show decode mX1_mayJoin.2.1 9 = .ok (.getfield 28, 3) by decide +kernel) ?_
    refine x_iload_n (pc := 12) (show decode mX1_mayJoin.2.1 12 = .ok (.iload_n 2, 1) by decide +kernel) rfl rfl ?_
    obtain ⟨hg, hR⟩ := hR
    refine x_iald (pc := 13) rfl (by decide) hg (show decode mX1_mayJoin.2.1 13 = .ok (.iaload, 1) by decide +kernel) ?_
    refine x_callS (pc := 14) (As := [.inl (h 41 x2)]) (rest := []) (lk1_59 rfl) sm_X3_rowOfTurn (Nat.le_of_ble_eq_true rfl) (Nat.le_of_ble_eq_true rfl) (show decode mX1_mayJoin.2.1 14 = .ok (.invokestatic 59, 3) by decide +kernel) hd hR (fun r9 h1 hq => ?_)
    obtain ⟨r2, rfl, hR⟩ := hq
    show xG _ _ _ 17 _ [.inl r2] _ _
    refine x_aload_n (pc := 17) (show decode mX1_mayJoin.2.1 17 = .ok (.aload_n 0, 1) by decide +kernel) rfl rfl ?_
    refine x_getR (pc := 18) f1_24 rfl rfl (show decode mX1_mayJoin.2.1 18 = .ok (.getfield 24, 3) by decide +kernel) ?_
    refine x_iload_n (pc := 21) (show decode mX1_mayJoin.2.1 21 = .ok (.iload_n 1, 1) by decide +kernel) rfl rfl ?_
    obtain ⟨hg, hR⟩ := hR
    refine x_iald (pc := 22) rfl (by decide) hg (show decode mX1_mayJoin.2.1 22 = .ok (.iaload, 1) by decide +kernel) ?_
    refine x_callS (pc := 23) (As := [.inl (h1 40 x1)]) (rest := [.inl r2]) (lk1_59 rfl) sm_X3_rowOfTurn (Nat.le_of_ble_eq_true rfl) (Nat.le_of_ble_eq_true rfl) (show decode mX1_mayJoin.2.1 23 = .ok (.invokestatic 59, 3) by decide +kernel) hd hR (fun r9 h3 hq => ?_)
    obtain ⟨r4, rfl, hR⟩ := hq
    show xG _ _ _ 26 _ [.inl r4, .inl r2] _ _
    obtain ⟨hg, hR⟩ := hR
    refine x_icmp_ge (pc := 26) (tgt := 33) (show decode mX1_mayJoin.2.1 26 = .ok (.if_icmp .ge 7, 3) by decide +kernel) (by decide) ⟨hg.1, hg.2⟩ (fun hc => ?_) (fun hc => ?_)
    · replace hR := hR.1 hc
      refine x_iconst (pc := 33) (n := 0) (show decode mX1_mayJoin.2.1 33 = .ok (.iconst 0, 1) by decide +kernel) ?_
      exact x_zret (pc := 34) rfl (show decode mX1_mayJoin.2.1 34 = .ok (.ireturn, 1) by decide +kernel) (by decide) ⟨_, rfl, hR⟩
    · replace hR := hR.2 hc
      refine x_iconst (pc := 29) (n := 1) (show decode mX1_mayJoin.2.1 29 = .ok (.iconst 1, 1) by decide +kernel) ?_
      refine x_goto (pc := 30) (tgt := 34) (show decode mX1_mayJoin.2.1 30 = .ok (.goto 4, 3) by decide +kernel) (by decide) ?_
      exact x_zret (pc := 34) rfl (show decode mX1_mayJoin.2.1 34 = .ok (.ireturn, 1) by decide +kernel) (by decide) ⟨_, rfl, hR⟩
set_option maxRecDepth 4000 in
theorem sg_X1_difference_0 {d : Nat} {x1 x2 : Int} {h : xH} {Q : Int → xH → Prop} (hd : 1 ≤ d)
    (hR : (0 ≤ x2 ∧ x2 < 10) ∧ cI wdC (d - 1) mX3_slotOfTurn [.inl (h 41 x2)] h (fun r2 h1 => (0 ≤ x1 ∧ x1 < 10) ∧ cI wdC (d - 1) mX3_slotOfTurn [.inl (h1 40 x1)] h1 (fun r4 h3 => (inI (r2 - r4)) ∧ Q (max (r2 - r4) (-(r2 - r4))) h3))) :
    gI wdC d mX1_difference 0 [some (.inr (.inr 39)), some (.inl x1), some (.inl x2)] h Q := by
  unfold gI
  refine x_aload_n (pc := 0) (show decode mX1_difference.2.1 0 = .ok (.aload_n 0, 1) by decide +kernel) rfl rfl ?_
  refine x_getR (pc := 1) f1_28 rfl rfl (show decode mX1_difference.2.1 1 = .ok (.getfield 28, 3) by decide +kernel) ?_
  refine x_iload_n (pc := 4) (show decode mX1_difference.2.1 4 = .ok (.iload_n 2, 1) by decide +kernel) rfl rfl ?_
  obtain ⟨hg, hR⟩ := hR
  refine x_iald (pc := 5) rfl (by decide) hg (show decode mX1_difference.2.1 5 = .ok (.iaload, 1) by decide +kernel) ?_
  refine x_callS (pc := 6) (As := [.inl (h 41 x2)]) (rest := []) (lk1_63 rfl) sm_X3_slotOfTurn (Nat.le_of_ble_eq_true rfl) (Nat.le_of_ble_eq_true rfl) (show decode mX1_difference.2.1 6 = .ok (.invokestatic 63, 3) by decide +kernel) hd hR (fun r9 h1 hq => ?_)
  obtain ⟨r2, rfl, hR⟩ := hq
  show xG _ _ _ 9 _ [.inl r2] _ _
  refine x_aload_n (pc := 9) (show decode mX1_difference.2.1 9 = .ok (.aload_n 0, 1) by decide +kernel) rfl rfl ?_
  refine x_getR (pc := 10) f1_24 rfl rfl (show decode mX1_difference.2.1 10 = .ok (.getfield 24, 3) by decide +kernel) ?_
  refine x_iload_n (pc := 13) (show decode mX1_difference.2.1 13 = .ok (.iload_n 1, 1) by decide +kernel) rfl rfl ?_
  obtain ⟨hg, hR⟩ := hR
  refine x_iald (pc := 14) rfl (by decide) hg (show decode mX1_difference.2.1 14 = .ok (.iaload, 1) by decide +kernel) ?_
  refine x_callS (pc := 15) (As := [.inl (h1 40 x1)]) (rest := [.inl r2]) (lk1_63 rfl) sm_X3_slotOfTurn (Nat.le_of_ble_eq_true rfl) (Nat.le_of_ble_eq_true rfl) (show decode mX1_difference.2.1 15 = .ok (.invokestatic 63, 3) by decide +kernel) hd hR (fun r9 h3 hq => ?_)
  obtain ⟨r4, rfl, hR⟩ := hq
  show xG _ _ _ 18 _ [.inl r4, .inl r2] _ _
  refine x_isub (pc := 18) (show decode mX1_difference.2.1 18 = .ok (.isub, 1) by decide +kernel) ?_
  obtain ⟨hg, hR⟩ := hR
  refine x_mabs (pc := 19) (b := 0) (tblG_m3 231 rfl rfl) MA_st M_in MA_cd hg (Nat.le_of_ble_eq_true rfl) hd (show decode mX1_difference.2.1 19 = .ok (.invokestatic 66, 3) by decide +kernel) ?_
  exact x_iret (pc := 22) rfl (show decode mX1_difference.2.1 22 = .ok (.ireturn, 1) by decide +kernel) ⟨_, rfl, hR⟩
set_option maxRecDepth 4000 in
theorem sg_X1_bestFrom_0 {d : Nat} {x1 x2 : Int} {h : xH} {Q : Int → xH → Prop}
    (hR : (0 ≤ (h 39 1) ∧ (h 39 1) ≤ 31) ∧ (0 ≤ (xorI (x1 * 2 ^ (Int.toNat (h 39 1))) x2) ∧ (xorI (x1 * 2 ^ (Int.toNat (h 39 1))) x2) < 1024) ∧ Q (h 43 (xorI (x1 * 2 ^ (Int.toNat (h 39 1))) x2)) h) :
    gI wdC d mX1_bestFrom 0 [some (.inr (.inr 39)), some (.inl x1), some (.inl x2)] h Q := by
  unfold gI
  refine x_aload_n (pc := 0) (show decode mX1_bestFrom.2.1 0 = .ok (.aload_n 0, 1) by decide +kernel) rfl rfl ?_
  refine x_getR (pc := 1) f1_34 rfl rfl (show decode mX1_bestFrom.2.1 1 = .ok (.getfield 34, 3) by decide +kernel) ?_
  refine x_iload_n (pc := 4) (show decode mX1_bestFrom.2.1 4 = .ok (.iload_n 1, 1) by decide +kernel) rfl rfl ?_
  refine x_aload_n (pc := 5) (show decode mX1_bestFrom.2.1 5 = .ok (.aload_n 0, 1) by decide +kernel) rfl rfl ?_
  refine x_getI (pc := 6) (ki := 1) f1_15 rfl rfl (by decide) rfl (show decode mX1_bestFrom.2.1 6 = .ok (.getfield 15, 3) by decide +kernel) ?_
  obtain ⟨hg, hR⟩ := hR
  refine x_ishl (pc := 9) (show decode mX1_bestFrom.2.1 9 = .ok (.ishl, 1) by decide +kernel) hg ?_
  refine x_iload_n (pc := 10) (show decode mX1_bestFrom.2.1 10 = .ok (.iload_n 2, 1) by decide +kernel) rfl rfl ?_
  refine x_ior (pc := 11) (show decode mX1_bestFrom.2.1 11 = .ok (.ior, 1) by decide +kernel) ?_
  obtain ⟨hg, hR⟩ := hR
  refine x_iald (pc := 12) rfl (by decide) hg (show decode mX1_bestFrom.2.1 12 = .ok (.iaload, 1) by decide +kernel) ?_
  exact x_iret (pc := 13) rfl (show decode mX1_bestFrom.2.1 13 = .ok (.ireturn, 1) by decide +kernel) ⟨_, rfl, hR⟩
set_option maxRecDepth 4000 in
theorem sg_X1_worthOf_0 {d : Nat} {x1 x2 x3 : Int} {h : xH} {Q : Int → xH → Prop} (hd : 1 ≤ d)
    (hR : cI wdC (d - 1) mX1_difference [.inr (.inr 39), .inl x1, .inl x2] h (fun r2 h1 => (0 ≤ x2 ∧ x2 ≤ 31) ∧ cI wdC (d - 1) mX1_bestFrom [.inr (.inr 39), .inl (x1 + 1), .inl (xorI x3 (1 * 2 ^ (Int.toNat x2)))] h1 (fun r4 h3 => Q ((1000 - r2) + r4) h3))) :
    gI wdC d mX1_worthOf 0 [some (.inr (.inr 39)), some (.inl x1), some (.inl x2), some (.inl x3)] h Q := by
  unfold gI
  refine x_sipush (pc := 0) (n := 1000) (show decode mX1_worthOf.2.1 0 = .ok (.sipush 1000, 3) by decide +kernel) rfl ?_
  refine x_aload_n (pc := 3) (show decode mX1_worthOf.2.1 3 = .ok (.aload_n 0, 1) by decide +kernel) rfl rfl ?_
  refine x_iload_n (pc := 4) (show decode mX1_worthOf.2.1 4 = .ok (.iload_n 1, 1) by decide +kernel) rfl rfl ?_
  refine x_iload_n (pc := 5) (show decode mX1_worthOf.2.1 5 = .ok (.iload_n 2, 1) by decide +kernel) rfl rfl ?_
  refine x_callV (pc := 6) (As := [.inl x1, .inl x2]) (rest := [.inl 1000]) (lk1_71 rfl) im_X1_difference sl_X1_difference rfl rfl rfl (Nat.le_of_ble_eq_true rfl) (Nat.le_of_ble_eq_true rfl) (show decode mX1_worthOf.2.1 6 = .ok (.invokevirtual 71, 3) by decide +kernel) hd hR (fun r9 h1 hq => ?_)
  obtain ⟨r2, rfl, hR⟩ := hq
  show xG _ _ _ 9 _ [.inl r2, .inl 1000] _ _
  refine x_isub (pc := 9) (show decode mX1_worthOf.2.1 9 = .ok (.isub, 1) by decide +kernel) ?_
  refine x_aload_n (pc := 10) (show decode mX1_worthOf.2.1 10 = .ok (.aload_n 0, 1) by decide +kernel) rfl rfl ?_
  refine x_iload_n (pc := 11) (show decode mX1_worthOf.2.1 11 = .ok (.iload_n 1, 1) by decide +kernel) rfl rfl ?_
  refine x_iconst (pc := 12) (n := 1) (show decode mX1_worthOf.2.1 12 = .ok (.iconst 1, 1) by decide +kernel) ?_
  refine x_iadd (pc := 13) (show decode mX1_worthOf.2.1 13 = .ok (.iadd, 1) by decide +kernel) ?_
  refine x_iload_n (pc := 14) (show decode mX1_worthOf.2.1 14 = .ok (.iload_n 3, 1) by decide +kernel) rfl rfl ?_
  refine x_iconst (pc := 15) (n := 1) (show decode mX1_worthOf.2.1 15 = .ok (.iconst 1, 1) by decide +kernel) ?_
  refine x_iload_n (pc := 16) (show decode mX1_worthOf.2.1 16 = .ok (.iload_n 2, 1) by decide +kernel) rfl rfl ?_
  obtain ⟨hg, hR⟩ := hR
  refine x_ishl (pc := 17) (show decode mX1_worthOf.2.1 17 = .ok (.ishl, 1) by decide +kernel) hg ?_
  refine x_ior (pc := 18) (show decode mX1_worthOf.2.1 18 = .ok (.ior, 1) by decide +kernel) ?_
  refine x_callV (pc := 19) (As := [.inl (x1 + 1), .inl (xorI x3 (1 * 2 ^ (Int.toNat x2)))]) (rest := [.inl (1000 - r2)]) (lk1_75 rfl) im_X1_bestFrom sl_X1_bestFrom rfl rfl rfl (Nat.le_of_ble_eq_true rfl) (Nat.le_of_ble_eq_true rfl) (show decode mX1_worthOf.2.1 19 = .ok (.invokevirtual 75, 3) by decide +kernel) hd hR (fun r9 h3 hq => ?_)
  obtain ⟨r4, rfl, hR⟩ := hq
  show xG _ _ _ 22 _ [.inl r4, .inl (1000 - r2)] _ _
  refine x_iadd (pc := 22) (show decode mX1_worthOf.2.1 22 = .ok (.iadd, 1) by decide +kernel) ?_
  exact x_iret (pc := 23) rfl (show decode mX1_worthOf.2.1 23 = .ok (.ireturn, 1) by decide +kernel) ⟨_, rfl, hR⟩
set_option maxRecDepth 4000 in
theorem sg_X1_weigh_0 {d : Nat} {h : xH} {Q : xH → Prop}
    (hR : (0 ≤ (h 39 1) ∧ (h 39 1) ≤ 31) ∧ gV wdC d mX1_weigh 9 [some (.inr (.inr 39)), some (.inl (1 * 2 ^ (Int.toNat (h 39 1)))), some (.inl 0), none] h Q) :
    gV wdC d mX1_weigh 0 [some (.inr (.inr 39)), none, none, none] h Q := by
  unfold gV
  refine x_iconst (pc := 0) (n := 1) (show decode mX1_weigh.2.1 0 = .ok (.iconst 1, 1) by decide +kernel) ?_
  refine x_aload_n (pc := 1) (show decode mX1_weigh.2.1 1 = .ok (.aload_n 0, 1) by decide +kernel) rfl rfl ?_
  refine x_getI (pc := 2) (ki := 1) f1_15 rfl rfl (by decide) rfl (show decode mX1_weigh.2.1 2 = .ok (.getfield 15, 3) by decide +kernel) ?_
  obtain ⟨hg, hR⟩ := hR
  refine x_ishl (pc := 5) (show decode mX1_weigh.2.1 5 = .ok (.ishl, 1) by decide +kernel) hg ?_
  refine x_istore_n (pc := 6) (ls' := [some (.inr (.inr 39)), some (.inl (1 * 2 ^ (Int.toNat (h 39 1)))), none, none]) (show decode mX1_weigh.2.1 6 = .ok (.istore_n 1, 1) by decide +kernel) rfl (by decide) rfl ?_
  refine x_iconst (pc := 7) (n := 0) (show decode mX1_weigh.2.1 7 = .ok (.iconst 0, 1) by decide +kernel) ?_
  refine x_istore_n (pc := 8) (ls' := [some (.inr (.inr 39)), some (.inl (1 * 2 ^ (Int.toNat (h 39 1)))), some (.inl 0), none]) (show decode mX1_weigh.2.1 8 = .ok (.istore_n 2, 1) by decide +kernel) rfl (by decide) rfl ?_
  exact hR
set_option maxRecDepth 4000 in
theorem sg_X1_weigh_9 {d : Nat} {x1 x2 : Int} {h : xH} {Q : xH → Prop}
    (hR : (inI x2 ∧ inI x1) ∧ (x1 ≤ x2 → gV wdC d mX1_weigh 44 [some (.inr (.inr 39)), some (.inl x1), some (.inl ((h 39 0) - 1)), none] h Q) ∧ (x2 < x1 → (0 ≤ (h 39 1) ∧ (h 39 1) ≤ 31) ∧ (0 ≤ (xorI ((h 39 0) * 2 ^ (Int.toNat (h 39 1))) x2) ∧ (xorI ((h 39 0) * 2 ^ (Int.toNat (h 39 1))) x2) < 1024) ∧ gV wdC d mX1_weigh 9 [some (.inr (.inr 39)), some (.inl x1), some (.inl (x2 + 1)), none] (xu h 43 (xorI ((h 39 0) * 2 ^ (Int.toNat (h 39 1))) x2) 0) Q)) :
    gV wdC d mX1_weigh 9 [some (.inr (.inr 39)), some (.inl x1), some (.inl x2), none] h Q := by
  unfold gV
  refine x_iload_n (pc := 9) (show decode mX1_weigh.2.1 9 = .ok (.iload_n 2, 1) by decide +kernel) rfl rfl ?_
  refine x_iload_n (pc := 10) (show decode mX1_weigh.2.1 10 = .ok (.iload_n 1, 1) by decide +kernel) rfl rfl ?_
  obtain ⟨hg, hR⟩ := hR
  refine x_icmp_ge (pc := 11) (tgt := 37) (show decode mX1_weigh.2.1 11 = .ok (.if_icmp .ge 26, 3) by decide +kernel) (by decide) ⟨hg.1, hg.2⟩ (fun hc => ?_) (fun hc => ?_)
  · replace hR := hR.1 hc
    refine x_aload_n (pc := 37) (show decode mX1_weigh.2.1 37 = .ok (.aload_n 0, 1) by decide +kernel) rfl rfl ?_
    refine x_getI (pc := 38) (ki := 0) f1_9 rfl rfl (by decide) rfl (show decode mX1_weigh.2.1 38 = .ok (.getfield 9, 3) by decide +kernel) ?_
    refine x_iconst (pc := 41) (n := 1) (show decode mX1_weigh.2.1 41 = .ok (.iconst 1, 1) by decide +kernel) ?_
    refine x_isub (pc := 42) (show decode mX1_weigh.2.1 42 = .ok (.isub, 1) by decide +kernel) ?_
    refine x_istore_n (pc := 43) (ls' := [some (.inr (.inr 39)), some (.inl x1), some (.inl ((h 39 0) - 1)), none]) (show decode mX1_weigh.2.1 43 = .ok (.istore_n 2, 1) by decide +kernel) rfl (by decide) rfl ?_
    exact hR
  · replace hR := hR.2 hc
    refine x_aload_n (pc := 14) (show decode mX1_weigh.2.1 14 = .ok (.aload_n 0, 1) by decide +kernel) rfl rfl ?_
    refine x_getR (pc := 15) f1_34 rfl rfl (show decode mX1_weigh.2.1 15 = .ok (.getfield 34, 3) by decide +kernel) ?_
    refine x_aload_n (pc := 18) (show decode mX1_weigh.2.1 18 = .ok (.aload_n 0, 1) by decide +kernel) rfl rfl ?_
    refine x_getI (pc := 19) (ki := 0) f1_9 rfl rfl (by decide) rfl (show decode mX1_weigh.2.1 19 = .ok (.getfield 9, 3) by decide +kernel) ?_
    refine x_aload_n (pc := 22) (show decode mX1_weigh.2.1 22 = .ok (.aload_n 0, 1) by decide +kernel) rfl rfl ?_
    refine x_getI (pc := 23) (ki := 1) f1_15 rfl rfl (by decide) rfl (show decode mX1_weigh.2.1 23 = .ok (.getfield 15, 3) by decide +kernel) ?_
    obtain ⟨hg, hR⟩ := hR
    refine x_ishl (pc := 26) (show decode mX1_weigh.2.1 26 = .ok (.ishl, 1) by decide +kernel) hg ?_
    refine x_iload_n (pc := 27) (show decode mX1_weigh.2.1 27 = .ok (.iload_n 2, 1) by decide +kernel) rfl rfl ?_
    refine x_ior (pc := 28) (show decode mX1_weigh.2.1 28 = .ok (.ior, 1) by decide +kernel) ?_
    refine x_iconst (pc := 29) (n := 0) (show decode mX1_weigh.2.1 29 = .ok (.iconst 0, 1) by decide +kernel) ?_
    obtain ⟨hg, hR⟩ := hR
    refine x_iast (pc := 30) rfl (by decide) hg (show decode mX1_weigh.2.1 30 = .ok (.iastore, 1) by decide +kernel) ?_
    refine x_iinc (pc := 31) (ls' := [some (.inr (.inr 39)), some (.inl x1), some (.inl (x2 + 1)), none]) (show decode mX1_weigh.2.1 31 = .ok (.iinc 2 1, 3) by decide +kernel) (by decide) rfl rfl ?_
    refine x_goto (pc := 34) (tgt := 9) (show decode mX1_weigh.2.1 34 = .ok (.goto (-25), 3) by decide +kernel) (by decide) ?_
    exact hR
set_option maxRecDepth 4000 in
theorem sg_X1_weigh_44 {d : Nat} {x1 x2 : Int} {h : xH} {Q : xH → Prop}
    (hR : (inI x2) ∧ (x2 < 0 → Q h) ∧ (0 ≤ x2 → gV wdC d mX1_weigh 50 [some (.inr (.inr 39)), some (.inl x1), some (.inl x2), some (.inl 0)] h Q)) :
    gV wdC d mX1_weigh 44 [some (.inr (.inr 39)), some (.inl x1), some (.inl x2), none] h Q := by
  unfold gV
  refine x_iload_n (pc := 44) (show decode mX1_weigh.2.1 44 = .ok (.iload_n 2, 1) by decide +kernel) rfl rfl ?_
  obtain ⟨hg, hR⟩ := hR
  refine x_if_lt (pc := 45) (tgt := 97) (show decode mX1_weigh.2.1 45 = .ok (.ifCond .lt 52, 3) by decide +kernel) (by decide) hg (fun hc => ?_) (fun hc => ?_)
  · replace hR := hR.1 hc
    exact x_vret (pc := 97) rfl (show decode mX1_weigh.2.1 97 = .ok (.return_, 1) by decide +kernel) ⟨rfl, hR⟩
  · replace hR := hR.2 hc
    refine x_iconst (pc := 48) (n := 0) (show decode mX1_weigh.2.1 48 = .ok (.iconst 0, 1) by decide +kernel) ?_
    refine x_istore_n (pc := 49) (ls' := [some (.inr (.inr 39)), some (.inl x1), some (.inl x2), some (.inl 0)]) (show decode mX1_weigh.2.1 49 = .ok (.istore_n 3, 1) by decide +kernel) rfl (by decide) rfl ?_
    exact hR
set_option maxRecDepth 4000 in
theorem sg_X1_weigh_50 {d : Nat} {x1 x2 x3 : Int} {h : xH} {Q : xH → Prop} (hd : 1 ≤ d)
    (hR : (inI x3 ∧ inI x1) ∧ (x1 ≤ x3 → gV wdC d mX1_weigh 44 [some (.inr (.inr 39)), some (.inl x1), some (.inl (x2 + (-1))), none] h Q) ∧ (x3 < x1 → cI wdC (d - 1) mJ_bitCount [.inl x3] h (fun r2 h1 => (inI r2 ∧ inI x2) ∧ (r2 ≤ x2 → (0 ≤ (h1 39 1) ∧ (h1 39 1) ≤ 31) ∧ cI wdC (d - 1) mX1_bestOf [.inr (.inr 39), .inl x2, .inl x3] h1 (fun r4 h3 => (0 ≤ (xorI (x2 * 2 ^ (Int.toNat (h1 39 1))) x3) ∧ (xorI (x2 * 2 ^ (Int.toNat (h1 39 1))) x3) < 1024) ∧ gV wdC d mX1_weigh 50 [some (.inr (.inr 39)), some (.inl x1), some (.inl x2), some (.inl (x3 + 1))] (xu h3 43 (xorI (x2 * 2 ^ (Int.toNat (h1 39 1))) x3) r4) Q)) ∧ (x2 < r2 → gV wdC d mX1_weigh 50 [some (.inr (.inr 39)), some (.inl x1), some (.inl x2), some (.inl (x3 + 1))] h1 Q)))) :
    gV wdC d mX1_weigh 50 [some (.inr (.inr 39)), some (.inl x1), some (.inl x2), some (.inl x3)] h Q := by
  unfold gV
  refine x_iload_n (pc := 50) (show decode mX1_weigh.2.1 50 = .ok (.iload_n 3, 1) by decide +kernel) rfl rfl ?_
  refine x_iload_n (pc := 51) (show decode mX1_weigh.2.1 51 = .ok (.iload_n 1, 1) by decide +kernel) rfl rfl ?_
  obtain ⟨hg, hR⟩ := hR
  refine x_icmp_ge (pc := 52) (tgt := 91) (show decode mX1_weigh.2.1 52 = .ok (.if_icmp .ge 39, 3) by decide +kernel) (by decide) ⟨hg.1, hg.2⟩ (fun hc => ?_) (fun hc => ?_)
  · replace hR := hR.1 hc
    refine x_iinc (pc := 91) (ls' := [some (.inr (.inr 39)), some (.inl x1), some (.inl (x2 + (-1))), some (.inl x3)]) (show decode mX1_weigh.2.1 91 = .ok (.iinc 2 (-1), 3) by decide +kernel) (by decide) rfl rfl ?_
    refine x_goto (pc := 94) (tgt := 44) (show decode mX1_weigh.2.1 94 = .ok (.goto (-50), 3) by decide +kernel) (by decide) ?_
    exact x_weak (xle_get (by repeat' constructor)) hR
  · replace hR := hR.2 hc
    refine x_iload_n (pc := 55) (show decode mX1_weigh.2.1 55 = .ok (.iload_n 3, 1) by decide +kernel) rfl rfl ?_
    refine x_callS (pc := 56) (As := [.inl x3]) (rest := []) (lk1_78 rfl) sm_J_bitCount (Nat.le_of_ble_eq_true rfl) (Nat.le_of_ble_eq_true rfl) (show decode mX1_weigh.2.1 56 = .ok (.invokestatic 78, 3) by decide +kernel) hd hR (fun r9 h1 hq => ?_)
    obtain ⟨r2, rfl, hR⟩ := hq
    show xG _ _ _ 59 _ [.inl r2] _ _
    refine x_iload_n (pc := 59) (show decode mX1_weigh.2.1 59 = .ok (.iload_n 2, 1) by decide +kernel) rfl rfl ?_
    obtain ⟨hg, hR⟩ := hR
    refine x_icmp_le (pc := 60) (tgt := 66) (show decode mX1_weigh.2.1 60 = .ok (.if_icmp .le 6, 3) by decide +kernel) (by decide) ⟨hg.1, hg.2⟩ (fun hc => ?_) (fun hc => ?_)
    · replace hR := hR.1 hc
      refine x_aload_n (pc := 66) (show decode mX1_weigh.2.1 66 = .ok (.aload_n 0, 1) by decide +kernel) rfl rfl ?_
      refine x_getR (pc := 67) f1_34 rfl rfl (show decode mX1_weigh.2.1 67 = .ok (.getfield 34, 3) by decide +kernel) ?_
      refine x_iload_n (pc := 70) (show decode mX1_weigh.2.1 70 = .ok (.iload_n 2, 1) by decide +kernel) rfl rfl ?_
      refine x_aload_n (pc := 71) (show decode mX1_weigh.2.1 71 = .ok (.aload_n 0, 1) by decide +kernel) rfl rfl ?_
      refine x_getI (pc := 72) (ki := 1) f1_15 rfl rfl (by decide) rfl (show decode mX1_weigh.2.1 72 = .ok (.getfield 15, 3) by decide +kernel) ?_
      obtain ⟨hg, hR⟩ := hR
      refine x_ishl (pc := 75) (show decode mX1_weigh.2.1 75 = .ok (.ishl, 1) by decide +kernel) hg ?_
      refine x_iload_n (pc := 76) (show decode mX1_weigh.2.1 76 = .ok (.iload_n 3, 1) by decide +kernel) rfl rfl ?_
      refine x_ior (pc := 77) (show decode mX1_weigh.2.1 77 = .ok (.ior, 1) by decide +kernel) ?_
      refine x_aload_n (pc := 78) (show decode mX1_weigh.2.1 78 = .ok (.aload_n 0, 1) by decide +kernel) rfl rfl ?_
      refine x_iload_n (pc := 79) (show decode mX1_weigh.2.1 79 = .ok (.iload_n 2, 1) by decide +kernel) rfl rfl ?_
      refine x_iload_n (pc := 80) (show decode mX1_weigh.2.1 80 = .ok (.iload_n 3, 1) by decide +kernel) rfl rfl ?_
      refine x_callV (pc := 81) (As := [.inl x2, .inl x3]) (rest := [.inl (xorI (x2 * 2 ^ (Int.toNat (h1 39 1))) x3), .inr (.inr 43)]) (lk1_83 rfl) im_X1_bestOf sl_X1_bestOf rfl rfl rfl (Nat.le_of_ble_eq_true rfl) (Nat.le_of_ble_eq_true rfl) (show decode mX1_weigh.2.1 81 = .ok (.invokevirtual 83, 3) by decide +kernel) hd hR (fun r9 h3 hq => ?_)
      obtain ⟨r4, rfl, hR⟩ := hq
      show xG _ _ _ 84 _ [.inl r4, .inl (xorI (x2 * 2 ^ (Int.toNat (h1 39 1))) x3), .inr (.inr 43)] _ _
      obtain ⟨hg, hR⟩ := hR
      refine x_iast (pc := 84) rfl (by decide) hg (show decode mX1_weigh.2.1 84 = .ok (.iastore, 1) by decide +kernel) ?_
      refine x_iinc (pc := 85) (ls' := [some (.inr (.inr 39)), some (.inl x1), some (.inl x2), some (.inl (x3 + 1))]) (show decode mX1_weigh.2.1 85 = .ok (.iinc 3 1, 3) by decide +kernel) (by decide) rfl rfl ?_
      refine x_goto (pc := 88) (tgt := 50) (show decode mX1_weigh.2.1 88 = .ok (.goto (-38), 3) by decide +kernel) (by decide) ?_
      exact hR
    · replace hR := hR.2 hc
      refine x_goto (pc := 63) (tgt := 85) (show decode mX1_weigh.2.1 63 = .ok (.goto 22, 3) by decide +kernel) (by decide) ?_
      refine x_iinc (pc := 85) (ls' := [some (.inr (.inr 39)), some (.inl x1), some (.inl x2), some (.inl (x3 + 1))]) (show decode mX1_weigh.2.1 85 = .ok (.iinc 3 1, 3) by decide +kernel) (by decide) rfl rfl ?_
      refine x_goto (pc := 88) (tgt := 50) (show decode mX1_weigh.2.1 88 = .ok (.goto (-38), 3) by decide +kernel) (by decide) ?_
      exact hR
set_option maxRecDepth 4000 in
theorem sg_X1_bestOf_0 {d : Nat} {x1 x2 : Int} {h : xH} {Q : Int → xH → Prop} (hd : 1 ≤ d)
    (hR : cI wdC (d - 1) mX1_bestFrom [.inr (.inr 39), .inl (x1 + 1), .inl x2] h (fun r2 h1 => gI wdC d mX1_bestOf 12 [some (.inr (.inr 39)), some (.inl x1), some (.inl x2), some (.inl r2), some (.inl 0)] h1 Q)) :
    gI wdC d mX1_bestOf 0 [some (.inr (.inr 39)), some (.inl x1), some (.inl x2), none, none] h Q := by
  unfold gI
  refine x_aload_n (pc := 0) (show decode mX1_bestOf.2.1 0 = .ok (.aload_n 0, 1) by decide +kernel) rfl rfl ?_
  refine x_iload_n (pc := 1) (show decode mX1_bestOf.2.1 1 = .ok (.iload_n 1, 1) by decide +kernel) rfl rfl ?_
  refine x_iconst (pc := 2) (n := 1) (show decode mX1_bestOf.2.1 2 = .ok (.iconst 1, 1) by decide +kernel) ?_
  refine x_iadd (pc := 3) (show decode mX1_bestOf.2.1 3 = .ok (.iadd, 1) by decide +kernel) ?_
  refine x_iload_n (pc := 4) (show decode mX1_bestOf.2.1 4 = .ok (.iload_n 2, 1) by decide +kernel) rfl rfl ?_
  refine x_callV (pc := 5) (As := [.inl (x1 + 1), .inl x2]) (rest := []) (lk1_75 rfl) im_X1_bestFrom sl_X1_bestFrom rfl rfl rfl (Nat.le_of_ble_eq_true rfl) (Nat.le_of_ble_eq_true rfl) (show decode mX1_bestOf.2.1 5 = .ok (.invokevirtual 75, 3) by decide +kernel) hd hR (fun r9 h1 hq => ?_)
  obtain ⟨r2, rfl, hR⟩ := hq
  show xG _ _ _ 8 _ [.inl r2] _ _
  refine x_istore_n (pc := 8) (ls' := [some (.inr (.inr 39)), some (.inl x1), some (.inl x2), some (.inl r2), none]) (show decode mX1_bestOf.2.1 8 = .ok (.istore_n 3, 1) by decide +kernel) rfl (by decide) rfl ?_
  refine x_iconst (pc := 9) (n := 0) (show decode mX1_bestOf.2.1 9 = .ok (.iconst 0, 1) by decide +kernel) ?_
  refine x_istore (pc := 10) (ls' := [some (.inr (.inr 39)), some (.inl x1), some (.inl x2), some (.inl r2), some (.inl 0)]) (show decode mX1_bestOf.2.1 10 = .ok (.istore 4, 2) by decide +kernel) (by decide) rfl ?_
  exact hR
set_option maxRecDepth 4000 in
theorem sg_X1_bestOf_12 {d : Nat} {x1 x2 x3 x4 : Int} {h : xH} {Q : Int → xH → Prop} (hd : 1 ≤ d)
    (hR : (inI x4 ∧ inI (h 39 1)) ∧ ((h 39 1) ≤ x4 → Q x3 h) ∧ (x4 < (h 39 1) → cB wdC (d - 1) mX1_mayJoin [.inr (.inr 39), .inl x1, .inl x4, .inl x2] h (fun h1 => cI wdC (d - 1) mX1_worthOf [.inr (.inr 39), .inl x1, .inl x4, .inl x2] h1 (fun r3 h2 => (inI x3 ∧ inI r3) ∧ gI wdC d mX1_bestOf 12 [some (.inr (.inr 39)), some (.inl x1), some (.inl x2), some (.inl (max x3 r3)), some (.inl (x4 + 1))] h2 Q)) (fun h1 => gI wdC d mX1_bestOf 12 [some (.inr (.inr 39)), some (.inl x1), some (.inl x2), some (.inl x3), some (.inl (x4 + 1))] h1 Q))) :
    gI wdC d mX1_bestOf 12 [some (.inr (.inr 39)), some (.inl x1), some (.inl x2), some (.inl x3), some (.inl x4)] h Q := by
  unfold gI
  refine x_iload (pc := 12) (show decode mX1_bestOf.2.1 12 = .ok (.iload 4, 2) by decide +kernel) rfl ?_
  refine x_aload_n (pc := 14) (show decode mX1_bestOf.2.1 14 = .ok (.aload_n 0, 1) by decide +kernel) rfl rfl ?_
  refine x_getI (pc := 15) (ki := 1) f1_15 rfl rfl (by decide) rfl (show decode mX1_bestOf.2.1 15 = .ok (.getfield 15, 3) by decide +kernel) ?_
  obtain ⟨hg, hR⟩ := hR
  refine x_icmp_ge (pc := 18) (tgt := 51) (show decode mX1_bestOf.2.1 18 = .ok (.if_icmp .ge 33, 3) by decide +kernel) (by decide) ⟨hg.1, hg.2⟩ (fun hc => ?_) (fun hc => ?_)
  · replace hR := hR.1 hc
    refine x_iload_n (pc := 51) (show decode mX1_bestOf.2.1 51 = .ok (.iload_n 3, 1) by decide +kernel) rfl rfl ?_
    exact x_iret (pc := 52) rfl (show decode mX1_bestOf.2.1 52 = .ok (.ireturn, 1) by decide +kernel) ⟨_, rfl, hR⟩
  · replace hR := hR.2 hc
    refine x_aload_n (pc := 21) (show decode mX1_bestOf.2.1 21 = .ok (.aload_n 0, 1) by decide +kernel) rfl rfl ?_
    refine x_iload_n (pc := 22) (show decode mX1_bestOf.2.1 22 = .ok (.iload_n 1, 1) by decide +kernel) rfl rfl ?_
    refine x_iload (pc := 23) (show decode mX1_bestOf.2.1 23 = .ok (.iload 4, 2) by decide +kernel) rfl ?_
    refine x_iload_n (pc := 25) (show decode mX1_bestOf.2.1 25 = .ok (.iload_n 2, 1) by decide +kernel) rfl rfl ?_
    refine x_callV (pc := 26) (As := [.inl x1, .inl x4, .inl x2]) (rest := []) (lk1_86 rfl) im_X1_mayJoin sl_X1_mayJoin rfl rfl rfl (Nat.le_of_ble_eq_true rfl) (Nat.le_of_ble_eq_true rfl) (show decode mX1_bestOf.2.1 26 = .ok (.invokevirtual 86, 3) by decide +kernel) hd hR (fun r9 h1 hq => ?_)
    obtain ⟨r8, rfl, hq⟩ := hq
    rcases hq with ⟨rfl, hR⟩ | ⟨rfl, hR⟩
    · show xG _ _ _ 29 _ [.inl 1] _ _
      refine x_if_eq (pc := 29) (tgt := 45) (show decode mX1_bestOf.2.1 29 = .ok (.ifCond .eq 16, 3) by decide +kernel) (by decide) (by unfold inI; decide) (fun hc => absurd hc (by decide)) (fun _ => ?_)
      refine x_iload_n (pc := 32) (show decode mX1_bestOf.2.1 32 = .ok (.iload_n 3, 1) by decide +kernel) rfl rfl ?_
      refine x_aload_n (pc := 33) (show decode mX1_bestOf.2.1 33 = .ok (.aload_n 0, 1) by decide +kernel) rfl rfl ?_
      refine x_iload_n (pc := 34) (show decode mX1_bestOf.2.1 34 = .ok (.iload_n 1, 1) by decide +kernel) rfl rfl ?_
      refine x_iload (pc := 35) (show decode mX1_bestOf.2.1 35 = .ok (.iload 4, 2) by decide +kernel) rfl ?_
      refine x_iload_n (pc := 37) (show decode mX1_bestOf.2.1 37 = .ok (.iload_n 2, 1) by decide +kernel) rfl rfl ?_
      refine x_callV (pc := 38) (As := [.inl x1, .inl x4, .inl x2]) (rest := [.inl x3]) (lk1_90 rfl) im_X1_worthOf sl_X1_worthOf rfl rfl rfl (Nat.le_of_ble_eq_true rfl) (Nat.le_of_ble_eq_true rfl) (show decode mX1_bestOf.2.1 38 = .ok (.invokevirtual 90, 3) by decide +kernel) hd hR (fun r9 h2 hq => ?_)
      obtain ⟨r3, rfl, hR⟩ := hq
      show xG _ _ _ 41 _ [.inl r3, .inl x3] _ _
      obtain ⟨hg, hR⟩ := hR
      refine x_mmax (pc := 41) (tblG_m3 232 rfl rfl) MX_st M_in MX_cd ⟨hg.1, hg.2⟩ (Nat.le_of_ble_eq_true rfl) hd (show decode mX1_bestOf.2.1 41 = .ok (.invokestatic 94, 3) by decide +kernel) ?_
      refine x_istore_n (pc := 44) (ls' := [some (.inr (.inr 39)), some (.inl x1), some (.inl x2), some (.inl (max x3 r3)), some (.inl x4)]) (show decode mX1_bestOf.2.1 44 = .ok (.istore_n 3, 1) by decide +kernel) rfl (by decide) rfl ?_
      refine x_iinc (pc := 45) (ls' := [some (.inr (.inr 39)), some (.inl x1), some (.inl x2), some (.inl (max x3 r3)), some (.inl (x4 + 1))]) (show decode mX1_bestOf.2.1 45 = .ok (.iinc 4 1, 3) by decide +kernel) (by decide) rfl rfl ?_
      refine x_goto (pc := 48) (tgt := 12) (show decode mX1_bestOf.2.1 48 = .ok (.goto (-36), 3) by decide +kernel) (by decide) ?_
      exact hR
    · show xG _ _ _ 29 _ [.inl 0] _ _
      refine x_if_eq (pc := 29) (tgt := 45) (show decode mX1_bestOf.2.1 29 = .ok (.ifCond .eq 16, 3) by decide +kernel) (by decide) (by unfold inI; decide) (fun _ => ?_) (fun hc => absurd hc (by decide))
      refine x_iinc (pc := 45) (ls' := [some (.inr (.inr 39)), some (.inl x1), some (.inl x2), some (.inl x3), some (.inl (x4 + 1))]) (show decode mX1_bestOf.2.1 45 = .ok (.iinc 4 1, 3) by decide +kernel) (by decide) rfl rfl ?_
      refine x_goto (pc := 48) (tgt := 12) (show decode mX1_bestOf.2.1 48 = .ok (.goto (-36), 3) by decide +kernel) (by decide) ?_
      exact hR
set_option maxRecDepth 4000 in
theorem sg_X1_choose_0 {d : Nat} {h : xH} {Q : xH → Prop}
    (hR : gV wdC d mX1_choose 14 [some (.inr (.inr 39)), some (.inl 0), some (.inl 0), none] (xu (xu h 39 2 0) 39 3 0) Q) :
    gV wdC d mX1_choose 0 [some (.inr (.inr 39)), none, none, none] h Q := by
  unfold gV
  refine x_aload_n (pc := 0) (show decode mX1_choose.2.1 0 = .ok (.aload_n 0, 1) by decide +kernel) rfl rfl ?_
  refine x_iconst (pc := 1) (n := 0) (show decode mX1_choose.2.1 1 = .ok (.iconst 0, 1) by decide +kernel) ?_
  refine x_putI (pc := 2) (ki := 2) f1_18 fp1_2 rfl rfl rfl (show decode mX1_choose.2.1 2 = .ok (.putfield 18, 3) by decide +kernel) ?_
  refine x_aload_n (pc := 5) (show decode mX1_choose.2.1 5 = .ok (.aload_n 0, 1) by decide +kernel) rfl rfl ?_
  refine x_iconst (pc := 6) (n := 0) (show decode mX1_choose.2.1 6 = .ok (.iconst 0, 1) by decide +kernel) ?_
  refine x_putI (pc := 7) (ki := 3) f1_21 fp1_3 rfl rfl rfl (show decode mX1_choose.2.1 7 = .ok (.putfield 21, 3) by decide +kernel) ?_
  refine x_iconst (pc := 10) (n := 0) (show decode mX1_choose.2.1 10 = .ok (.iconst 0, 1) by decide +kernel) ?_
  refine x_istore_n (pc := 11) (ls' := [some (.inr (.inr 39)), some (.inl 0), none, none]) (show decode mX1_choose.2.1 11 = .ok (.istore_n 1, 1) by decide +kernel) rfl (by decide) rfl ?_
  refine x_iconst (pc := 12) (n := 0) (show decode mX1_choose.2.1 12 = .ok (.iconst 0, 1) by decide +kernel) ?_
  refine x_istore_n (pc := 13) (ls' := [some (.inr (.inr 39)), some (.inl 0), some (.inl 0), none]) (show decode mX1_choose.2.1 13 = .ok (.istore_n 2, 1) by decide +kernel) rfl (by decide) rfl ?_
  exact hR
set_option maxRecDepth 4000 in
theorem sg_X1_choose_14 {d : Nat} {x1 x2 : Int} {h : xH} {Q : xH → Prop} (hd : 1 ≤ d)
    (hR : (inI x2 ∧ inI (h 39 0)) ∧ ((h 39 0) ≤ x2 → Q h) ∧ (x2 < (h 39 0) → cI wdC (d - 1) mX1_firstOut [.inr (.inr 39), .inl x2, .inl x1] h (fun r2 h1 => (0 ≤ x2 ∧ x2 < 10) ∧ (inI r2) ∧ (0 ≤ r2 → (0 ≤ r2 ∧ r2 ≤ 31) ∧ cI wdC (d - 1) mX1_difference [.inr (.inr 39), .inl x2, .inl r2] (xu (xu h1 42 x2 r2) 39 2 ((h1 39 2) + 1)) (fun r4 h3 => gV wdC d mX1_choose 14 [some (.inr (.inr 39)), some (.inl (xorI x1 (1 * 2 ^ (Int.toNat r2)))), some (.inl (x2 + 1)), none] (xu h3 39 3 ((h1 39 3) + r4)) Q)) ∧ (r2 < 0 → gV wdC d mX1_choose 14 [some (.inr (.inr 39)), some (.inl x1), some (.inl (x2 + 1)), none] (xu h1 42 x2 r2) Q)))) :
    gV wdC d mX1_choose 14 [some (.inr (.inr 39)), some (.inl x1), some (.inl x2), none] h Q := by
  unfold gV
  refine x_iload_n (pc := 14) (show decode mX1_choose.2.1 14 = .ok (.iload_n 2, 1) by decide +kernel) rfl rfl ?_
  refine x_aload_n (pc := 15) (show decode mX1_choose.2.1 15 = .ok (.aload_n 0, 1) by decide +kernel) rfl rfl ?_
  refine x_getI (pc := 16) (ki := 0) f1_9 rfl rfl (by decide) rfl (show decode mX1_choose.2.1 16 = .ok (.getfield 9, 3) by decide +kernel) ?_
  obtain ⟨hg, hR⟩ := hR
  refine x_icmp_ge (pc := 19) (tgt := 80) (show decode mX1_choose.2.1 19 = .ok (.if_icmp .ge 61, 3) by decide +kernel) (by decide) ⟨hg.1, hg.2⟩ (fun hc => ?_) (fun hc => ?_)
  · replace hR := hR.1 hc
    exact x_vret (pc := 80) rfl (show decode mX1_choose.2.1 80 = .ok (.return_, 1) by decide +kernel) ⟨rfl, hR⟩
  · replace hR := hR.2 hc
    refine x_aload_n (pc := 22) (show decode mX1_choose.2.1 22 = .ok (.aload_n 0, 1) by decide +kernel) rfl rfl ?_
    refine x_iload_n (pc := 23) (show decode mX1_choose.2.1 23 = .ok (.iload_n 2, 1) by decide +kernel) rfl rfl ?_
    refine x_iload_n (pc := 24) (show decode mX1_choose.2.1 24 = .ok (.iload_n 1, 1) by decide +kernel) rfl rfl ?_
    refine x_callV (pc := 25) (As := [.inl x2, .inl x1]) (rest := []) (lk1_97 rfl) im_X1_firstOut sl_X1_firstOut rfl rfl rfl (Nat.le_of_ble_eq_true rfl) (Nat.le_of_ble_eq_true rfl) (show decode mX1_choose.2.1 25 = .ok (.invokevirtual 97, 3) by decide +kernel) hd hR (fun r9 h1 hq => ?_)
    obtain ⟨r2, rfl, hR⟩ := hq
    show xG _ _ _ 28 _ [.inl r2] _ _
    refine x_istore_n (pc := 28) (ls' := [some (.inr (.inr 39)), some (.inl x1), some (.inl x2), some (.inl r2)]) (show decode mX1_choose.2.1 28 = .ok (.istore_n 3, 1) by decide +kernel) rfl (by decide) rfl ?_
    refine x_aload_n (pc := 29) (show decode mX1_choose.2.1 29 = .ok (.aload_n 0, 1) by decide +kernel) rfl rfl ?_
    refine x_getR (pc := 30) f1_31 rfl rfl (show decode mX1_choose.2.1 30 = .ok (.getfield 31, 3) by decide +kernel) ?_
    refine x_iload_n (pc := 33) (show decode mX1_choose.2.1 33 = .ok (.iload_n 2, 1) by decide +kernel) rfl rfl ?_
    refine x_iload_n (pc := 34) (show decode mX1_choose.2.1 34 = .ok (.iload_n 3, 1) by decide +kernel) rfl rfl ?_
    obtain ⟨hg, hR⟩ := hR
    refine x_iast (pc := 35) rfl (by decide) hg (show decode mX1_choose.2.1 35 = .ok (.iastore, 1) by decide +kernel) ?_
    refine x_iload_n (pc := 36) (show decode mX1_choose.2.1 36 = .ok (.iload_n 3, 1) by decide +kernel) rfl rfl ?_
    obtain ⟨hg, hR⟩ := hR
    refine x_if_ge (pc := 37) (tgt := 43) (show decode mX1_choose.2.1 37 = .ok (.ifCond .ge 6, 3) by decide +kernel) (by decide) hg (fun hc => ?_) (fun hc => ?_)
    · replace hR := hR.1 hc
      refine x_iload_n (pc := 43) (show decode mX1_choose.2.1 43 = .ok (.iload_n 1, 1) by decide +kernel) rfl rfl ?_
      refine x_iconst (pc := 44) (n := 1) (show decode mX1_choose.2.1 44 = .ok (.iconst 1, 1) by decide +kernel) ?_
      refine x_iload_n (pc := 45) (show decode mX1_choose.2.1 45 = .ok (.iload_n 3, 1) by decide +kernel) rfl rfl ?_
      obtain ⟨hg, hR⟩ := hR
      refine x_ishl (pc := 46) (show decode mX1_choose.2.1 46 = .ok (.ishl, 1) by decide +kernel) hg ?_
      refine x_ior (pc := 47) (show decode mX1_choose.2.1 47 = .ok (.ior, 1) by decide +kernel) ?_
      refine x_istore_n (pc := 48) (ls' := [some (.inr (.inr 39)), some (.inl (xorI x1 (1 * 2 ^ (Int.toNat r2)))), some (.inl x2), some (.inl r2)]) (show decode mX1_choose.2.1 48 = .ok (.istore_n 1, 1) by decide +kernel) rfl (by decide) rfl ?_
      refine x_aload_n (pc := 49) (show decode mX1_choose.2.1 49 = .ok (.aload_n 0, 1) by decide +kernel) rfl rfl ?_
      refine x_dup (pc := 50) (show decode mX1_choose.2.1 50 = .ok (.dup, 1) by decide +kernel) rfl ?_
      refine x_getI (pc := 51) (ki := 2) f1_18 rfl rfl (by decide) rfl (show decode mX1_choose.2.1 51 = .ok (.getfield 18, 3) by decide +kernel) ?_
      refine x_iconst (pc := 54) (n := 1) (show decode mX1_choose.2.1 54 = .ok (.iconst 1, 1) by decide +kernel) ?_
      refine x_iadd (pc := 55) (show decode mX1_choose.2.1 55 = .ok (.iadd, 1) by decide +kernel) ?_
      refine x_putI (pc := 56) (ki := 2) f1_18 fp1_2 rfl rfl rfl (show decode mX1_choose.2.1 56 = .ok (.putfield 18, 3) by decide +kernel) ?_
      refine x_aload_n (pc := 59) (show decode mX1_choose.2.1 59 = .ok (.aload_n 0, 1) by decide +kernel) rfl rfl ?_
      refine x_dup (pc := 60) (show decode mX1_choose.2.1 60 = .ok (.dup, 1) by decide +kernel) rfl ?_
      refine x_getI (pc := 61) (ki := 3) f1_21 rfl rfl (by decide) rfl (show decode mX1_choose.2.1 61 = .ok (.getfield 21, 3) by decide +kernel) ?_
      refine x_aload_n (pc := 64) (show decode mX1_choose.2.1 64 = .ok (.aload_n 0, 1) by decide +kernel) rfl rfl ?_
      refine x_iload_n (pc := 65) (show decode mX1_choose.2.1 65 = .ok (.iload_n 2, 1) by decide +kernel) rfl rfl ?_
      refine x_iload_n (pc := 66) (show decode mX1_choose.2.1 66 = .ok (.iload_n 3, 1) by decide +kernel) rfl rfl ?_
      refine x_callV (pc := 67) (As := [.inl x2, .inl r2]) (rest := [.inl (h1 39 3), .inr (.inr 39)]) (lk1_71 rfl) im_X1_difference sl_X1_difference rfl rfl rfl (Nat.le_of_ble_eq_true rfl) (Nat.le_of_ble_eq_true rfl) (show decode mX1_choose.2.1 67 = .ok (.invokevirtual 71, 3) by decide +kernel) hd hR (fun r9 h3 hq => ?_)
      obtain ⟨r4, rfl, hR⟩ := hq
      show xG _ _ _ 70 _ [.inl r4, .inl (h1 39 3), .inr (.inr 39)] _ _
      refine x_iadd (pc := 70) (show decode mX1_choose.2.1 70 = .ok (.iadd, 1) by decide +kernel) ?_
      refine x_putI (pc := 71) (ki := 3) f1_21 fp1_3 rfl rfl rfl (show decode mX1_choose.2.1 71 = .ok (.putfield 21, 3) by decide +kernel) ?_
      refine x_iinc (pc := 74) (ls' := [some (.inr (.inr 39)), some (.inl (xorI x1 (1 * 2 ^ (Int.toNat r2)))), some (.inl (x2 + 1)), some (.inl r2)]) (show decode mX1_choose.2.1 74 = .ok (.iinc 2 1, 3) by decide +kernel) (by decide) rfl rfl ?_
      refine x_goto (pc := 77) (tgt := 14) (show decode mX1_choose.2.1 77 = .ok (.goto (-63), 3) by decide +kernel) (by decide) ?_
      exact x_weak (xle_get (by repeat' constructor)) hR
    · replace hR := hR.2 hc
      refine x_goto (pc := 40) (tgt := 74) (show decode mX1_choose.2.1 40 = .ok (.goto 34, 3) by decide +kernel) (by decide) ?_
      refine x_iinc (pc := 74) (ls' := [some (.inr (.inr 39)), some (.inl x1), some (.inl (x2 + 1)), some (.inl r2)]) (show decode mX1_choose.2.1 74 = .ok (.iinc 2 1, 3) by decide +kernel) (by decide) rfl rfl ?_
      refine x_goto (pc := 77) (tgt := 14) (show decode mX1_choose.2.1 77 = .ok (.goto (-63), 3) by decide +kernel) (by decide) ?_
      exact x_weak (xle_get (by repeat' constructor)) hR
set_option maxRecDepth 4000 in
theorem sg_X1_firstOut_0 {d : Nat} {x1 x2 : Int} {h : xH} {Q : Int → xH → Prop}
    (hR : gI wdC d mX1_firstOut 2 [some (.inr (.inr 39)), some (.inl x1), some (.inl x2), some (.inl 0)] h Q) :
    gI wdC d mX1_firstOut 0 [some (.inr (.inr 39)), some (.inl x1), some (.inl x2), none] h Q := by
  unfold gI
  refine x_iconst (pc := 0) (n := 0) (show decode mX1_firstOut.2.1 0 = .ok (.iconst 0, 1) by decide +kernel) ?_
  refine x_istore_n (pc := 1) (ls' := [some (.inr (.inr 39)), some (.inl x1), some (.inl x2), some (.inl 0)]) (show decode mX1_firstOut.2.1 1 = .ok (.istore_n 3, 1) by decide +kernel) rfl (by decide) rfl ?_
  exact hR
set_option maxRecDepth 4000 in
theorem sg_X1_firstOut_2 {d : Nat} {x1 x2 x3 : Int} {h : xH} {Q : Int → xH → Prop} (hd : 1 ≤ d)
    (hR : (inI x3 ∧ inI (h 39 1)) ∧ ((h 39 1) ≤ x3 → Q (-1) h) ∧ (x3 < (h 39 1) → cB wdC (d - 1) mX1_mayJoin [.inr (.inr 39), .inl x1, .inl x3, .inl x2] h (fun h1 => cI wdC (d - 1) mX1_worthOf [.inr (.inr 39), .inl x1, .inl x3, .inl x2] h1 (fun r3 h2 => cI wdC (d - 1) mX1_bestFrom [.inr (.inr 39), .inl x1, .inl x2] h2 (fun r5 h4 => (inI r3 ∧ inI r5) ∧ (¬ r3 = r5 → gI wdC d mX1_firstOut 2 [some (.inr (.inr 39)), some (.inl x1), some (.inl x2), some (.inl (x3 + 1))] h4 Q) ∧ (r3 = r5 → Q x3 h4)))) (fun h1 => gI wdC d mX1_firstOut 2 [some (.inr (.inr 39)), some (.inl x1), some (.inl x2), some (.inl (x3 + 1))] h1 Q))) :
    gI wdC d mX1_firstOut 2 [some (.inr (.inr 39)), some (.inl x1), some (.inl x2), some (.inl x3)] h Q := by
  unfold gI
  refine x_iload_n (pc := 2) (show decode mX1_firstOut.2.1 2 = .ok (.iload_n 3, 1) by decide +kernel) rfl rfl ?_
  refine x_aload_n (pc := 3) (show decode mX1_firstOut.2.1 3 = .ok (.aload_n 0, 1) by decide +kernel) rfl rfl ?_
  refine x_getI (pc := 4) (ki := 1) f1_15 rfl rfl (by decide) rfl (show decode mX1_firstOut.2.1 4 = .ok (.getfield 15, 3) by decide +kernel) ?_
  obtain ⟨hg, hR⟩ := hR
  refine x_icmp_ge (pc := 7) (tgt := 44) (show decode mX1_firstOut.2.1 7 = .ok (.if_icmp .ge 37, 3) by decide +kernel) (by decide) ⟨hg.1, hg.2⟩ (fun hc => ?_) (fun hc => ?_)
  · replace hR := hR.1 hc
    refine x_iconst (pc := 44) (n := (-1)) (show decode mX1_firstOut.2.1 44 = .ok (.iconst (-1), 1) by decide +kernel) ?_
    exact x_iret (pc := 45) rfl (show decode mX1_firstOut.2.1 45 = .ok (.ireturn, 1) by decide +kernel) ⟨_, rfl, hR⟩
  · replace hR := hR.2 hc
    refine x_aload_n (pc := 10) (show decode mX1_firstOut.2.1 10 = .ok (.aload_n 0, 1) by decide +kernel) rfl rfl ?_
    refine x_iload_n (pc := 11) (show decode mX1_firstOut.2.1 11 = .ok (.iload_n 1, 1) by decide +kernel) rfl rfl ?_
    refine x_iload_n (pc := 12) (show decode mX1_firstOut.2.1 12 = .ok (.iload_n 3, 1) by decide +kernel) rfl rfl ?_
    refine x_iload_n (pc := 13) (show decode mX1_firstOut.2.1 13 = .ok (.iload_n 2, 1) by decide +kernel) rfl rfl ?_
    refine x_callV (pc := 14) (As := [.inl x1, .inl x3, .inl x2]) (rest := []) (lk1_86 rfl) im_X1_mayJoin sl_X1_mayJoin rfl rfl rfl (Nat.le_of_ble_eq_true rfl) (Nat.le_of_ble_eq_true rfl) (show decode mX1_firstOut.2.1 14 = .ok (.invokevirtual 86, 3) by decide +kernel) hd hR (fun r9 h1 hq => ?_)
    obtain ⟨r8, rfl, hq⟩ := hq
    rcases hq with ⟨rfl, hR⟩ | ⟨rfl, hR⟩
    · show xG _ _ _ 17 _ [.inl 1] _ _
      refine x_if_eq (pc := 17) (tgt := 38) (show decode mX1_firstOut.2.1 17 = .ok (.ifCond .eq 21, 3) by decide +kernel) (by decide) (by unfold inI; decide) (fun hc => absurd hc (by decide)) (fun _ => ?_)
      refine x_aload_n (pc := 20) (show decode mX1_firstOut.2.1 20 = .ok (.aload_n 0, 1) by decide +kernel) rfl rfl ?_
      refine x_iload_n (pc := 21) (show decode mX1_firstOut.2.1 21 = .ok (.iload_n 1, 1) by decide +kernel) rfl rfl ?_
      refine x_iload_n (pc := 22) (show decode mX1_firstOut.2.1 22 = .ok (.iload_n 3, 1) by decide +kernel) rfl rfl ?_
      refine x_iload_n (pc := 23) (show decode mX1_firstOut.2.1 23 = .ok (.iload_n 2, 1) by decide +kernel) rfl rfl ?_
      refine x_callV (pc := 24) (As := [.inl x1, .inl x3, .inl x2]) (rest := []) (lk1_90 rfl) im_X1_worthOf sl_X1_worthOf rfl rfl rfl (Nat.le_of_ble_eq_true rfl) (Nat.le_of_ble_eq_true rfl) (show decode mX1_firstOut.2.1 24 = .ok (.invokevirtual 90, 3) by decide +kernel) hd hR (fun r9 h2 hq => ?_)
      obtain ⟨r3, rfl, hR⟩ := hq
      show xG _ _ _ 27 _ [.inl r3] _ _
      refine x_aload_n (pc := 27) (show decode mX1_firstOut.2.1 27 = .ok (.aload_n 0, 1) by decide +kernel) rfl rfl ?_
      refine x_iload_n (pc := 28) (show decode mX1_firstOut.2.1 28 = .ok (.iload_n 1, 1) by decide +kernel) rfl rfl ?_
      refine x_iload_n (pc := 29) (show decode mX1_firstOut.2.1 29 = .ok (.iload_n 2, 1) by decide +kernel) rfl rfl ?_
      refine x_callV (pc := 30) (As := [.inl x1, .inl x2]) (rest := [.inl r3]) (lk1_75 rfl) im_X1_bestFrom sl_X1_bestFrom rfl rfl rfl (Nat.le_of_ble_eq_true rfl) (Nat.le_of_ble_eq_true rfl) (show decode mX1_firstOut.2.1 30 = .ok (.invokevirtual 75, 3) by decide +kernel) hd hR (fun r9 h4 hq => ?_)
      obtain ⟨r5, rfl, hR⟩ := hq
      show xG _ _ _ 33 _ [.inl r5, .inl r3] _ _
      obtain ⟨hg, hR⟩ := hR
      refine x_icmp_ne (pc := 33) (tgt := 38) (show decode mX1_firstOut.2.1 33 = .ok (.if_icmp .ne 5, 3) by decide +kernel) (by decide) ⟨hg.1, hg.2⟩ (fun hc => ?_) (fun hc => ?_)
      · replace hR := hR.1 hc
        refine x_iinc (pc := 38) (ls' := [some (.inr (.inr 39)), some (.inl x1), some (.inl x2), some (.inl (x3 + 1))]) (show decode mX1_firstOut.2.1 38 = .ok (.iinc 3 1, 3) by decide +kernel) (by decide) rfl rfl ?_
        refine x_goto (pc := 41) (tgt := 2) (show decode mX1_firstOut.2.1 41 = .ok (.goto (-39), 3) by decide +kernel) (by decide) ?_
        exact hR
      · replace hR := hR.2 hc
        refine x_iload_n (pc := 36) (show decode mX1_firstOut.2.1 36 = .ok (.iload_n 3, 1) by decide +kernel) rfl rfl ?_
        exact x_iret (pc := 37) rfl (show decode mX1_firstOut.2.1 37 = .ok (.ireturn, 1) by decide +kernel) ⟨_, rfl, hR⟩
    · show xG _ _ _ 17 _ [.inl 0] _ _
      refine x_if_eq (pc := 17) (tgt := 38) (show decode mX1_firstOut.2.1 17 = .ok (.ifCond .eq 21, 3) by decide +kernel) (by decide) (by unfold inI; decide) (fun _ => ?_) (fun hc => absurd hc (by decide))
      refine x_iinc (pc := 38) (ls' := [some (.inr (.inr 39)), some (.inl x1), some (.inl x2), some (.inl (x3 + 1))]) (show decode mX1_firstOut.2.1 38 = .ok (.iinc 3 1, 3) by decide +kernel) (by decide) rfl rfl ?_
      refine x_goto (pc := 41) (tgt := 2) (show decode mX1_firstOut.2.1 41 = .ok (.goto (-39), 3) by decide +kernel) (by decide) ?_
      exact hR
set_option maxRecDepth 4000 in
theorem sg_X2_study_0 {d : Nat} {h : xH} {Q : xH → Prop} (hd : 1 ≤ d)
    (hR : cV wdC (d - 1) mX2_sortByRow [.inr (.inr 26), .inr (.inr 1)] h (fun h1 => cV wdC (d - 1) mJ_fill [.inr (.inr 31), .inl (-1)] h1 (fun h2 => gV wdC d mX2_study 15 [some (.inr (.inr 26)), some (.inr (.inr 1)), some (.inl 0), none, none] h2 Q))) :
    gV wdC d mX2_study 0 [some (.inr (.inr 26)), some (.inr (.inr 1)), none, none, none] h Q := by
  unfold gV
  refine x_aload_n (pc := 0) (show decode mX2_study.2.1 0 = .ok (.aload_n 0, 1) by decide +kernel) rfl rfl ?_
  refine x_aload_n (pc := 1) (show decode mX2_study.2.1 1 = .ok (.aload_n 1, 1) by decide +kernel) rfl rfl ?_
  refine x_callV (pc := 2) (As := [.inr (.inr 1)]) (rest := []) (lk2_28 rfl) im_X2_sortByRow sl_X2_sortByRow rfl rfl rfl (Nat.le_of_ble_eq_true rfl) (Nat.le_of_ble_eq_true rfl) (show decode mX2_study.2.1 2 = .ok (.invokevirtual 28, 3) by decide +kernel) hd hR (fun r9 h1 hq => ?_)
  obtain ⟨rfl, hR⟩ := hq
  show xG _ _ _ 5 _ [] _ _
  refine x_aload_n (pc := 5) (show decode mX2_study.2.1 5 = .ok (.aload_n 0, 1) by decide +kernel) rfl rfl ?_
  refine x_getR (pc := 6) f2_25 rfl rfl (show decode mX2_study.2.1 6 = .ok (.getfield 25, 3) by decide +kernel) ?_
  refine x_iconst (pc := 9) (n := (-1)) (show decode mX2_study.2.1 9 = .ok (.iconst (-1), 1) by decide +kernel) ?_
  refine x_callS (pc := 10) (As := [.inr (.inr 31), .inl (-1)]) (rest := []) (lk2_32 rfl) sm_J_fill (Nat.le_of_ble_eq_true rfl) (Nat.le_of_ble_eq_true rfl) (show decode mX2_study.2.1 10 = .ok (.invokestatic 32, 3) by decide +kernel) hd hR (fun r9 h2 hq => ?_)
  obtain ⟨rfl, hR⟩ := hq
  show xG _ _ _ 13 _ [] _ _
  refine x_iconst (pc := 13) (n := 0) (show decode mX2_study.2.1 13 = .ok (.iconst 0, 1) by decide +kernel) ?_
  refine x_istore_n (pc := 14) (ls' := [some (.inr (.inr 26)), some (.inr (.inr 1)), some (.inl 0), none, none]) (show decode mX2_study.2.1 14 = .ok (.istore_n 2, 1) by decide +kernel) rfl (by decide) rfl ?_
  exact hR
set_option maxRecDepth 4000 in
theorem sg_X2_study_15 {d : Nat} {x2 : Int} {h : xH} {Q : xH → Prop} (hd : 1 ≤ d)
    (hR : (inI x2 ∧ inI (h 1 2)) ∧ ((h 1 2) ≤ x2 → Q h) ∧ (x2 < (h 1 2) → (0 ≤ x2 ∧ x2 < 30) ∧ (0 ≤ (h 30 x2) ∧ (h 30 x2) < 30) ∧ (0 ≤ (h 30 x2) ∧ (h 30 x2) < 30) ∧ (0 ≤ (h 30 x2) ∧ (h 30 x2) < 30) ∧ (0 ≤ (h 30 x2) ∧ (h 30 x2) < 30) ∧ (0 ≤ (h 3 (h 30 x2)) ∧ (h 3 (h 30 x2)) < 12) ∧ cV wdC (d - 1) mX2_take [.inr (.inr 26), .inl (h 30 x2), .inl (h 31 (h 3 (h 30 x2)))] (xu (xu (xu h 27 (h 30 x2) 0) 28 (h 30 x2) 0) 29 (h 30 x2) 0) (fun h1 => (0 ≤ ((h 3 (h 30 x2)) + 1) ∧ ((h 3 (h 30 x2)) + 1) < 12) ∧ cV wdC (d - 1) mX2_take [.inr (.inr 26), .inl (h 30 x2), .inl (h1 31 ((h 3 (h 30 x2)) + 1))] h1 (fun h2 => (0 ≤ (h 3 (h 30 x2)) ∧ (h 3 (h 30 x2)) < 12) ∧ (0 ≤ ((h 3 (h 30 x2)) + 1) ∧ ((h 3 (h 30 x2)) + 1) < 12) ∧ gV wdC d mX2_study 15 [some (.inr (.inr 26)), some (.inr (.inr 1)), some (.inl (x2 + 1)), none, none] (xu (xu h2 31 (h 3 (h 30 x2)) (h 30 x2)) 31 ((h 3 (h 30 x2)) + 1) (h 30 x2)) Q)))) :
    gV wdC d mX2_study 15 [some (.inr (.inr 26)), some (.inr (.inr 1)), some (.inl x2), none, none] h Q := by
  unfold gV
  refine x_iload_n (pc := 15) (show decode mX2_study.2.1 15 = .ok (.iload_n 2, 1) by decide +kernel) rfl rfl ?_
  refine x_aload_n (pc := 16) (show decode mX2_study.2.1 16 = .ok (.aload_n 1, 1) by decide +kernel) rfl rfl ?_
  refine x_getI (pc := 17) (ki := 2) f2_38 rfl rfl (by decide) rfl (show decode mX2_study.2.1 17 = .ok (.getfield 38, 3) by decide +kernel) ?_
  obtain ⟨hg, hR⟩ := hR
  refine x_icmp_ge (pc := 20) (tgt := 109) (show decode mX2_study.2.1 20 = .ok (.if_icmp .ge 89, 3) by decide +kernel) (by decide) ⟨hg.1, hg.2⟩ (fun hc => ?_) (fun hc => ?_)
  · replace hR := hR.1 hc
    exact x_vret (pc := 109) rfl (show decode mX2_study.2.1 109 = .ok (.return_, 1) by decide +kernel) ⟨rfl, hR⟩
  · replace hR := hR.2 hc
    refine x_aload_n (pc := 23) (show decode mX2_study.2.1 23 = .ok (.aload_n 0, 1) by decide +kernel) rfl rfl ?_
    refine x_getR (pc := 24) f2_22 rfl rfl (show decode mX2_study.2.1 24 = .ok (.getfield 22, 3) by decide +kernel) ?_
    refine x_iload_n (pc := 27) (show decode mX2_study.2.1 27 = .ok (.iload_n 2, 1) by decide +kernel) rfl rfl ?_
    obtain ⟨hg, hR⟩ := hR
    refine x_iald (pc := 28) rfl (by decide) hg (show decode mX2_study.2.1 28 = .ok (.iaload, 1) by decide +kernel) ?_
    refine x_istore_n (pc := 29) (ls' := [some (.inr (.inr 26)), some (.inr (.inr 1)), some (.inl x2), some (.inl (h 30 x2)), none]) (show decode mX2_study.2.1 29 = .ok (.istore_n 3, 1) by decide +kernel) rfl (by decide) rfl ?_
    refine x_aload_n (pc := 30) (show decode mX2_study.2.1 30 = .ok (.aload_n 1, 1) by decide +kernel) rfl rfl ?_
    refine x_getR (pc := 31) f2_44 rfl rfl (show decode mX2_study.2.1 31 = .ok (.getfield 44, 3) by decide +kernel) ?_
    refine x_iload_n (pc := 34) (show decode mX2_study.2.1 34 = .ok (.iload_n 3, 1) by decide +kernel) rfl rfl ?_
    obtain ⟨hg, hR⟩ := hR
    refine x_iald (pc := 35) rfl (by decide) hg (show decode mX2_study.2.1 35 = .ok (.iaload, 1) by decide +kernel) ?_
    refine x_istore (pc := 36) (ls' := [some (.inr (.inr 26)), some (.inr (.inr 1)), some (.inl x2), some (.inl (h 30 x2)), some (.inl (h 3 (h 30 x2)))]) (show decode mX2_study.2.1 36 = .ok (.istore 4, 2) by decide +kernel) (by decide) rfl ?_
    refine x_aload_n (pc := 38) (show decode mX2_study.2.1 38 = .ok (.aload_n 0, 1) by decide +kernel) rfl rfl ?_
    refine x_getR (pc := 39) f2_9 rfl rfl (show decode mX2_study.2.1 39 = .ok (.getfield 9, 3) by decide +kernel) ?_
    refine x_iload_n (pc := 42) (show decode mX2_study.2.1 42 = .ok (.iload_n 3, 1) by decide +kernel) rfl rfl ?_
    refine x_lconst (pc := 43) (v := 0) (show decode mX2_study.2.1 43 = .ok (.lconst 0, 1) by decide +kernel) rfl ?_
    obtain ⟨hg, hR⟩ := hR
    refine x_last (pc := 44) rfl (by decide) hg (show decode mX2_study.2.1 44 = .ok (.lastore, 1) by decide +kernel) ?_
    refine x_aload_n (pc := 45) (show decode mX2_study.2.1 45 = .ok (.aload_n 0, 1) by decide +kernel) rfl rfl ?_
    refine x_getR (pc := 46) f2_15 rfl rfl (show decode mX2_study.2.1 46 = .ok (.getfield 15, 3) by decide +kernel) ?_
    refine x_iload_n (pc := 49) (show decode mX2_study.2.1 49 = .ok (.iload_n 3, 1) by decide +kernel) rfl rfl ?_
    refine x_lconst (pc := 50) (v := 0) (show decode mX2_study.2.1 50 = .ok (.lconst 0, 1) by decide +kernel) rfl ?_
    obtain ⟨hg, hR⟩ := hR
    refine x_last (pc := 51) rfl (by decide) hg (show decode mX2_study.2.1 51 = .ok (.lastore, 1) by decide +kernel) ?_
    refine x_aload_n (pc := 52) (show decode mX2_study.2.1 52 = .ok (.aload_n 0, 1) by decide +kernel) rfl rfl ?_
    refine x_getR (pc := 53) f2_18 rfl rfl (show decode mX2_study.2.1 53 = .ok (.getfield 18, 3) by decide +kernel) ?_
    refine x_iload_n (pc := 56) (show decode mX2_study.2.1 56 = .ok (.iload_n 3, 1) by decide +kernel) rfl rfl ?_
    refine x_iconst (pc := 57) (n := 0) (show decode mX2_study.2.1 57 = .ok (.iconst 0, 1) by decide +kernel) ?_
    obtain ⟨hg, hR⟩ := hR
    refine x_iast (pc := 58) rfl (by decide) hg (show decode mX2_study.2.1 58 = .ok (.iastore, 1) by decide +kernel) ?_
    refine x_aload_n (pc := 59) (show decode mX2_study.2.1 59 = .ok (.aload_n 0, 1) by decide +kernel) rfl rfl ?_
    refine x_iload_n (pc := 60) (show decode mX2_study.2.1 60 = .ok (.iload_n 3, 1) by decide +kernel) rfl rfl ?_
    refine x_aload_n (pc := 61) (show decode mX2_study.2.1 61 = .ok (.aload_n 0, 1) by decide +kernel) rfl rfl ?_
    refine x_getR (pc := 62) f2_25 rfl rfl (show decode mX2_study.2.1 62 = .ok (.getfield 25, 3) by decide +kernel) ?_
    refine x_iload (pc := 65) (show decode mX2_study.2.1 65 = .ok (.iload 4, 2) by decide +kernel) rfl ?_
    obtain ⟨hg, hR⟩ := hR
    refine x_iald (pc := 67) rfl (by decide) hg (show decode mX2_study.2.1 67 = .ok (.iaload, 1) by decide +kernel) ?_
    refine x_callV (pc := 68) (As := [.inl (h 30 x2), .inl (h 31 (h 3 (h 30 x2)))]) (rest := []) (lk2_47 rfl) im_X2_take sl_X2_take rfl rfl rfl (Nat.le_of_ble_eq_true rfl) (Nat.le_of_ble_eq_true rfl) (show decode mX2_study.2.1 68 = .ok (.invokevirtual 47, 3) by decide +kernel) hd hR (fun r9 h1 hq => ?_)
    obtain ⟨rfl, hR⟩ := hq
    show xG _ _ _ 71 _ [] _ _
    refine x_aload_n (pc := 71) (show decode mX2_study.2.1 71 = .ok (.aload_n 0, 1) by decide +kernel) rfl rfl ?_
    refine x_iload_n (pc := 72) (show decode mX2_study.2.1 72 = .ok (.iload_n 3, 1) by decide +kernel) rfl rfl ?_
    refine x_aload_n (pc := 73) (show decode mX2_study.2.1 73 = .ok (.aload_n 0, 1) by decide +kernel) rfl rfl ?_
    refine x_getR (pc := 74) f2_25 rfl rfl (show decode mX2_study.2.1 74 = .ok (.getfield 25, 3) by decide +kernel) ?_
    refine x_iload (pc := 77) (show decode mX2_study.2.1 77 = .ok (.iload 4, 2) by decide +kernel) rfl ?_
    refine x_iconst (pc := 79) (n := 1) (show decode mX2_study.2.1 79 = .ok (.iconst 1, 1) by decide +kernel) ?_
    refine x_iadd (pc := 80) (show decode mX2_study.2.1 80 = .ok (.iadd, 1) by decide +kernel) ?_
    obtain ⟨hg, hR⟩ := hR
    refine x_iald (pc := 81) rfl (by decide) hg (show decode mX2_study.2.1 81 = .ok (.iaload, 1) by decide +kernel) ?_
    refine x_callV (pc := 82) (As := [.inl (h 30 x2), .inl (h1 31 ((h 3 (h 30 x2)) + 1))]) (rest := []) (lk2_47 rfl) im_X2_take sl_X2_take rfl rfl rfl (Nat.le_of_ble_eq_true rfl) (Nat.le_of_ble_eq_true rfl) (show decode mX2_study.2.1 82 = .ok (.invokevirtual 47, 3) by decide +kernel) hd hR (fun r9 h2 hq => ?_)
    obtain ⟨rfl, hR⟩ := hq
    show xG _ _ _ 85 _ [] _ _
    refine x_aload_n (pc := 85) (show decode mX2_study.2.1 85 = .ok (.aload_n 0, 1) by decide +kernel) rfl rfl ?_
    refine x_getR (pc := 86) f2_25 rfl rfl (show decode mX2_study.2.1 86 = .ok (.getfield 25, 3) by decide +kernel) ?_
    refine x_iload (pc := 89) (show decode mX2_study.2.1 89 = .ok (.iload 4, 2) by decide +kernel) rfl ?_
    refine x_iload_n (pc := 91) (show decode mX2_study.2.1 91 = .ok (.iload_n 3, 1) by decide +kernel) rfl rfl ?_
    obtain ⟨hg, hR⟩ := hR
    refine x_iast (pc := 92) rfl (by decide) hg (show decode mX2_study.2.1 92 = .ok (.iastore, 1) by decide +kernel) ?_
    refine x_aload_n (pc := 93) (show decode mX2_study.2.1 93 = .ok (.aload_n 0, 1) by decide +kernel) rfl rfl ?_
    refine x_getR (pc := 94) f2_25 rfl rfl (show decode mX2_study.2.1 94 = .ok (.getfield 25, 3) by decide +kernel) ?_
    refine x_iload (pc := 97) (show decode mX2_study.2.1 97 = .ok (.iload 4, 2) by decide +kernel) rfl ?_
    refine x_iconst (pc := 99) (n := 1) (show decode mX2_study.2.1 99 = .ok (.iconst 1, 1) by decide +kernel) ?_
    refine x_iadd (pc := 100) (show decode mX2_study.2.1 100 = .ok (.iadd, 1) by decide +kernel) ?_
    refine x_iload_n (pc := 101) (show decode mX2_study.2.1 101 = .ok (.iload_n 3, 1) by decide +kernel) rfl rfl ?_
    obtain ⟨hg, hR⟩ := hR
    refine x_iast (pc := 102) rfl (by decide) hg (show decode mX2_study.2.1 102 = .ok (.iastore, 1) by decide +kernel) ?_
    refine x_iinc (pc := 103) (ls' := [some (.inr (.inr 26)), some (.inr (.inr 1)), some (.inl (x2 + 1)), some (.inl (h 30 x2)), some (.inl (h 3 (h 30 x2)))]) (show decode mX2_study.2.1 103 = .ok (.iinc 2 1, 3) by decide +kernel) (by decide) rfl rfl ?_
    refine x_goto (pc := 106) (tgt := 15) (show decode mX2_study.2.1 106 = .ok (.goto (-91), 3) by decide +kernel) (by decide) ?_
    exact x_weak (xle_get (by repeat' constructor)) hR
set_option maxRecDepth 4000 in
theorem sg_X2_sortByRow_0 {d : Nat} {h : xH} {Q : xH → Prop}
    (hR : gV wdC d mX2_sortByRow 2 [some (.inr (.inr 26)), some (.inr (.inr 1)), some (.inl 0), none] h Q) :
    gV wdC d mX2_sortByRow 0 [some (.inr (.inr 26)), some (.inr (.inr 1)), none, none] h Q := by
  unfold gV
  refine x_iconst (pc := 0) (n := 0) (show decode mX2_sortByRow.2.1 0 = .ok (.iconst 0, 1) by decide +kernel) ?_
  refine x_istore_n (pc := 1) (ls' := [some (.inr (.inr 26)), some (.inr (.inr 1)), some (.inl 0), none]) (show decode mX2_sortByRow.2.1 1 = .ok (.istore_n 2, 1) by decide +kernel) rfl (by decide) rfl ?_
  exact hR
set_option maxRecDepth 4000 in
theorem sg_X2_sortByRow_2 {d : Nat} {x2 : Int} {h : xH} {Q : xH → Prop}
    (hR : (inI x2 ∧ inI (h 1 2)) ∧ ((h 1 2) ≤ x2 → Q h) ∧ (x2 < (h 1 2) → gV wdC d mX2_sortByRow 12 [some (.inr (.inr 26)), some (.inr (.inr 1)), some (.inl x2), some (.inl x2)] h Q)) :
    gV wdC d mX2_sortByRow 2 [some (.inr (.inr 26)), some (.inr (.inr 1)), some (.inl x2), none] h Q := by
  unfold gV
  refine x_iload_n (pc := 2) (show decode mX2_sortByRow.2.1 2 = .ok (.iload_n 2, 1) by decide +kernel) rfl rfl ?_
  refine x_aload_n (pc := 3) (show decode mX2_sortByRow.2.1 3 = .ok (.aload_n 1, 1) by decide +kernel) rfl rfl ?_
  refine x_getI (pc := 4) (ki := 2) f2_38 rfl rfl (by decide) rfl (show decode mX2_sortByRow.2.1 4 = .ok (.getfield 38, 3) by decide +kernel) ?_
  obtain ⟨hg, hR⟩ := hR
  refine x_icmp_ge (pc := 7) (tgt := 71) (show decode mX2_sortByRow.2.1 7 = .ok (.if_icmp .ge 64, 3) by decide +kernel) (by decide) ⟨hg.1, hg.2⟩ (fun hc => ?_) (fun hc => ?_)
  · replace hR := hR.1 hc
    exact x_vret (pc := 71) rfl (show decode mX2_sortByRow.2.1 71 = .ok (.return_, 1) by decide +kernel) ⟨rfl, hR⟩
  · replace hR := hR.2 hc
    refine x_iload_n (pc := 10) (show decode mX2_sortByRow.2.1 10 = .ok (.iload_n 2, 1) by decide +kernel) rfl rfl ?_
    refine x_istore_n (pc := 11) (ls' := [some (.inr (.inr 26)), some (.inr (.inr 1)), some (.inl x2), some (.inl x2)]) (show decode mX2_sortByRow.2.1 11 = .ok (.istore_n 3, 1) by decide +kernel) rfl (by decide) rfl ?_
    exact hR
set_option maxRecDepth 4000 in
theorem sg_X2_sortByRow_12 {d : Nat} {x2 x3 : Int} {h : xH} {Q : xH → Prop}
    (hR : (inI x3) ∧ (x3 ≤ 0 → (0 ≤ x3 ∧ x3 < 30) ∧ gV wdC d mX2_sortByRow 2 [some (.inr (.inr 26)), some (.inr (.inr 1)), some (.inl (x2 + 1)), none] (xu h 30 x3 x2) Q) ∧ (0 < x3 → (0 ≤ (x3 - 1) ∧ (x3 - 1) < 30) ∧ (0 ≤ (h 30 (x3 - 1)) ∧ (h 30 (x3 - 1)) < 30) ∧ (0 ≤ x2 ∧ x2 < 30) ∧ (inI (h 2 (h 30 (x3 - 1))) ∧ inI (h 2 x2)) ∧ ((h 2 (h 30 (x3 - 1))) ≤ (h 2 x2) → (0 ≤ x3 ∧ x3 < 30) ∧ gV wdC d mX2_sortByRow 2 [some (.inr (.inr 26)), some (.inr (.inr 1)), some (.inl (x2 + 1)), none] (xu h 30 x3 x2) Q) ∧ ((h 2 x2) < (h 2 (h 30 (x3 - 1))) → (0 ≤ (x3 - 1) ∧ (x3 - 1) < 30) ∧ (0 ≤ x3 ∧ x3 < 30) ∧ gV wdC d mX2_sortByRow 12 [some (.inr (.inr 26)), some (.inr (.inr 1)), some (.inl x2), some (.inl (x3 + (-1)))] (xu h 30 x3 (h 30 (x3 - 1))) Q))) :
    gV wdC d mX2_sortByRow 12 [some (.inr (.inr 26)), some (.inr (.inr 1)), some (.inl x2), some (.inl x3)] h Q := by
  unfold gV
  refine x_iload_n (pc := 12) (show decode mX2_sortByRow.2.1 12 = .ok (.iload_n 3, 1) by decide +kernel) rfl rfl ?_
  obtain ⟨hg, hR⟩ := hR
  refine x_if_le (pc := 13) (tgt := 58) (show decode mX2_sortByRow.2.1 13 = .ok (.ifCond .le 45, 3) by decide +kernel) (by decide) hg (fun hc => ?_) (fun hc => ?_)
  · replace hR := hR.1 hc
    refine x_aload_n (pc := 58) (show decode mX2_sortByRow.2.1 58 = .ok (.aload_n 0, 1) by decide +kernel) rfl rfl ?_
    refine x_getR (pc := 59) f2_22 rfl rfl (show decode mX2_sortByRow.2.1 59 = .ok (.getfield 22, 3) by decide +kernel) ?_
    refine x_iload_n (pc := 62) (show decode mX2_sortByRow.2.1 62 = .ok (.iload_n 3, 1) by decide +kernel) rfl rfl ?_
    refine x_iload_n (pc := 63) (show decode mX2_sortByRow.2.1 63 = .ok (.iload_n 2, 1) by decide +kernel) rfl rfl ?_
    obtain ⟨hg, hR⟩ := hR
    refine x_iast (pc := 64) rfl (by decide) hg (show decode mX2_sortByRow.2.1 64 = .ok (.iastore, 1) by decide +kernel) ?_
    refine x_iinc (pc := 65) (ls' := [some (.inr (.inr 26)), some (.inr (.inr 1)), some (.inl (x2 + 1)), some (.inl x3)]) (show decode mX2_sortByRow.2.1 65 = .ok (.iinc 2 1, 3) by decide +kernel) (by decide) rfl rfl ?_
    refine x_goto (pc := 68) (tgt := 2) (show decode mX2_sortByRow.2.1 68 = .ok (.goto (-66), 3) by decide +kernel) (by decide) ?_
    exact x_weak (xle_get (by repeat' constructor)) hR
  · replace hR := hR.2 hc
    refine x_aload_n (pc := 16) (show decode mX2_sortByRow.2.1 16 = .ok (.aload_n 1, 1) by decide +kernel) rfl rfl ?_
    refine x_getR (pc := 17) f2_51 rfl rfl (show decode mX2_sortByRow.2.1 17 = .ok (.getfield 51, 3) by decide +kernel) ?_
    refine x_aload_n (pc := 20) (show decode mX2_sortByRow.2.1 20 = .ok (.aload_n 0, 1) by decide +kernel) rfl rfl ?_
    refine x_getR (pc := 21) f2_22 rfl rfl (show decode mX2_sortByRow.2.1 21 = .ok (.getfield 22, 3) by decide +kernel) ?_
    refine x_iload_n (pc := 24) (show decode mX2_sortByRow.2.1 24 = .ok (.iload_n 3, 1) by decide +kernel) rfl rfl ?_
    refine x_iconst (pc := 25) (n := 1) (show decode mX2_sortByRow.2.1 25 = .ok (.iconst 1, 1) by decide +kernel) ?_
    refine x_isub (pc := 26) (show decode mX2_sortByRow.2.1 26 = .ok (.isub, 1) by decide +kernel) ?_
    obtain ⟨hg, hR⟩ := hR
    refine x_iald (pc := 27) rfl (by decide) hg (show decode mX2_sortByRow.2.1 27 = .ok (.iaload, 1) by decide +kernel) ?_
    obtain ⟨hg, hR⟩ := hR
    refine x_iald (pc := 28) rfl (by decide) hg (show decode mX2_sortByRow.2.1 28 = .ok (.iaload, 1) by decide +kernel) ?_
    refine x_aload_n (pc := 29) (show decode mX2_sortByRow.2.1 29 = .ok (.aload_n 1, 1) by decide +kernel) rfl rfl ?_
    refine x_getR (pc := 30) f2_51 rfl rfl (show decode mX2_sortByRow.2.1 30 = .ok (.getfield 51, 3) by decide +kernel) ?_
    refine x_iload_n (pc := 33) (show decode mX2_sortByRow.2.1 33 = .ok (.iload_n 2, 1) by decide +kernel) rfl rfl ?_
    obtain ⟨hg, hR⟩ := hR
    refine x_iald (pc := 34) rfl (by decide) hg (show decode mX2_sortByRow.2.1 34 = .ok (.iaload, 1) by decide +kernel) ?_
    obtain ⟨hg, hR⟩ := hR
    refine x_icmp_le (pc := 35) (tgt := 58) (show decode mX2_sortByRow.2.1 35 = .ok (.if_icmp .le 23, 3) by decide +kernel) (by decide) ⟨hg.1, hg.2⟩ (fun hc => ?_) (fun hc => ?_)
    · replace hR := hR.1 hc
      refine x_aload_n (pc := 58) (show decode mX2_sortByRow.2.1 58 = .ok (.aload_n 0, 1) by decide +kernel) rfl rfl ?_
      refine x_getR (pc := 59) f2_22 rfl rfl (show decode mX2_sortByRow.2.1 59 = .ok (.getfield 22, 3) by decide +kernel) ?_
      refine x_iload_n (pc := 62) (show decode mX2_sortByRow.2.1 62 = .ok (.iload_n 3, 1) by decide +kernel) rfl rfl ?_
      refine x_iload_n (pc := 63) (show decode mX2_sortByRow.2.1 63 = .ok (.iload_n 2, 1) by decide +kernel) rfl rfl ?_
      obtain ⟨hg, hR⟩ := hR
      refine x_iast (pc := 64) rfl (by decide) hg (show decode mX2_sortByRow.2.1 64 = .ok (.iastore, 1) by decide +kernel) ?_
      refine x_iinc (pc := 65) (ls' := [some (.inr (.inr 26)), some (.inr (.inr 1)), some (.inl (x2 + 1)), some (.inl x3)]) (show decode mX2_sortByRow.2.1 65 = .ok (.iinc 2 1, 3) by decide +kernel) (by decide) rfl rfl ?_
      refine x_goto (pc := 68) (tgt := 2) (show decode mX2_sortByRow.2.1 68 = .ok (.goto (-66), 3) by decide +kernel) (by decide) ?_
      exact x_weak (xle_get (by repeat' constructor)) hR
    · replace hR := hR.2 hc
      refine x_aload_n (pc := 38) (show decode mX2_sortByRow.2.1 38 = .ok (.aload_n 0, 1) by decide +kernel) rfl rfl ?_
      refine x_getR (pc := 39) f2_22 rfl rfl (show decode mX2_sortByRow.2.1 39 = .ok (.getfield 22, 3) by decide +kernel) ?_
      refine x_iload_n (pc := 42) (show decode mX2_sortByRow.2.1 42 = .ok (.iload_n 3, 1) by decide +kernel) rfl rfl ?_
      refine x_aload_n (pc := 43) (show decode mX2_sortByRow.2.1 43 = .ok (.aload_n 0, 1) by decide +kernel) rfl rfl ?_
      refine x_getR (pc := 44) f2_22 rfl rfl (show decode mX2_sortByRow.2.1 44 = .ok (.getfield 22, 3) by decide +kernel) ?_
      refine x_iload_n (pc := 47) (show decode mX2_sortByRow.2.1 47 = .ok (.iload_n 3, 1) by decide +kernel) rfl rfl ?_
      refine x_iconst (pc := 48) (n := 1) (show decode mX2_sortByRow.2.1 48 = .ok (.iconst 1, 1) by decide +kernel) ?_
      refine x_isub (pc := 49) (show decode mX2_sortByRow.2.1 49 = .ok (.isub, 1) by decide +kernel) ?_
      obtain ⟨hg, hR⟩ := hR
      refine x_iald (pc := 50) rfl (by decide) hg (show decode mX2_sortByRow.2.1 50 = .ok (.iaload, 1) by decide +kernel) ?_
      obtain ⟨hg, hR⟩ := hR
      refine x_iast (pc := 51) rfl (by decide) hg (show decode mX2_sortByRow.2.1 51 = .ok (.iastore, 1) by decide +kernel) ?_
      refine x_iinc (pc := 52) (ls' := [some (.inr (.inr 26)), some (.inr (.inr 1)), some (.inl x2), some (.inl (x3 + (-1)))]) (show decode mX2_sortByRow.2.1 52 = .ok (.iinc 3 (-1), 3) by decide +kernel) (by decide) rfl rfl ?_
      refine x_goto (pc := 55) (tgt := 12) (show decode mX2_sortByRow.2.1 55 = .ok (.goto (-43), 3) by decide +kernel) (by decide) ?_
      exact hR
set_option maxRecDepth 4000 in
theorem sg_X2_take_0 {d : Nat} {x1 x2 : Int} {h : xH} {Q : xH → Prop} (hd : 1 ≤ d)
    (hR : (inI x2) ∧ (0 ≤ x2 → (0 ≤ x1 ∧ x1 < 30) ∧ cL wdC (d - 1) mX7_pinBit [.inl x2] h (fun r2 h1 => (0 ≤ x1 ∧ x1 < 30) ∧ (0 ≤ x1 ∧ x1 < 30) ∧ cL wdC (d - 1) mX7_pinBit [.inl x2] (xu h1 27 x1 (xorL (h 27 x1) r2)) (fun r4 h3 => (0 ≤ x2 ∧ x2 < 30) ∧ (0 ≤ x1 ∧ x1 < 30) ∧ (0 ≤ x1 ∧ x1 < 30) ∧ (0 ≤ x2 ∧ x2 < 30) ∧ (inI (h3 29 x1) ∧ inI ((h3 29 x2) + 1)) ∧ (0 ≤ x1 ∧ x1 < 30) ∧ Q (xu (xu h3 28 x1 (xorL (h1 28 x1) (xorL r4 (h3 28 x2)))) 29 x1 (max (h3 29 x1) ((h3 29 x2) + 1)))))) ∧ (x2 < 0 → Q h)) :
    gV wdC d mX2_take 0 [some (.inr (.inr 26)), some (.inl x1), some (.inl x2)] h Q := by
  unfold gV
  refine x_iload_n (pc := 0) (show decode mX2_take.2.1 0 = .ok (.iload_n 2, 1) by decide +kernel) rfl rfl ?_
  obtain ⟨hg, hR⟩ := hR
  refine x_if_ge (pc := 1) (tgt := 5) (show decode mX2_take.2.1 1 = .ok (.ifCond .ge 4, 3) by decide +kernel) (by decide) hg (fun hc => ?_) (fun hc => ?_)
  · replace hR := hR.1 hc
    refine x_aload_n (pc := 5) (show decode mX2_take.2.1 5 = .ok (.aload_n 0, 1) by decide +kernel) rfl rfl ?_
    refine x_getR (pc := 6) f2_9 rfl rfl (show decode mX2_take.2.1 6 = .ok (.getfield 9, 3) by decide +kernel) ?_
    refine x_iload_n (pc := 9) (show decode mX2_take.2.1 9 = .ok (.iload_n 1, 1) by decide +kernel) rfl rfl ?_
    refine x_dup2 (pc := 10) (show decode mX2_take.2.1 10 = .ok (.dup2, 1) by decide +kernel) rfl rfl ?_
    obtain ⟨hg, hR⟩ := hR
    refine x_lald (pc := 11) rfl (by decide) hg (show decode mX2_take.2.1 11 = .ok (.laload, 1) by decide +kernel) ?_
    refine x_iload_n (pc := 12) (show decode mX2_take.2.1 12 = .ok (.iload_n 2, 1) by decide +kernel) rfl rfl ?_
    refine x_callSN (pc := 13) (As := [.inl x2]) (rest := [.inr (.inl (h 27 x1)), .inl x1, .inr (.inr 27)]) (lk2_54 rfl) sm_X7_pinBit (Nat.le_of_ble_eq_true rfl) (Nat.le_of_ble_eq_true rfl) (show decode mX2_take.2.1 13 = .ok (.invokestatic 54, 3) by decide +kernel) hd hR (fun r9 h1 hq => ?_)
    obtain ⟨r2, rfl, hR⟩ := hq
    show xG _ _ _ 16 _ [.inr (.inl r2), .inr (.inl (h 27 x1)), .inl x1, .inr (.inr 27)] _ _
    refine x_lor (pc := 16) (show decode mX2_take.2.1 16 = .ok (.lor, 1) by decide +kernel) ?_
    obtain ⟨hg, hR⟩ := hR
    refine x_last (pc := 17) rfl (by decide) hg (show decode mX2_take.2.1 17 = .ok (.lastore, 1) by decide +kernel) ?_
    refine x_aload_n (pc := 18) (show decode mX2_take.2.1 18 = .ok (.aload_n 0, 1) by decide +kernel) rfl rfl ?_
    refine x_getR (pc := 19) f2_15 rfl rfl (show decode mX2_take.2.1 19 = .ok (.getfield 15, 3) by decide +kernel) ?_
    refine x_iload_n (pc := 22) (show decode mX2_take.2.1 22 = .ok (.iload_n 1, 1) by decide +kernel) rfl rfl ?_
    refine x_dup2 (pc := 23) (show decode mX2_take.2.1 23 = .ok (.dup2, 1) by decide +kernel) rfl rfl ?_
    obtain ⟨hg, hR⟩ := hR
    refine x_lald (pc := 24) rfl (by decide) hg (show decode mX2_take.2.1 24 = .ok (.laload, 1) by decide +kernel) ?_
    refine x_iload_n (pc := 25) (show decode mX2_take.2.1 25 = .ok (.iload_n 2, 1) by decide +kernel) rfl rfl ?_
    refine x_callSN (pc := 26) (As := [.inl x2]) (rest := [.inr (.inl (h1 28 x1)), .inl x1, .inr (.inr 28)]) (lk2_54 rfl) sm_X7_pinBit (Nat.le_of_ble_eq_true rfl) (Nat.le_of_ble_eq_true rfl) (show decode mX2_take.2.1 26 = .ok (.invokestatic 54, 3) by decide +kernel) hd hR (fun r9 h3 hq => ?_)
    obtain ⟨r4, rfl, hR⟩ := hq
    show xG _ _ _ 29 _ [.inr (.inl r4), .inr (.inl (h1 28 x1)), .inl x1, .inr (.inr 28)] _ _
    refine x_aload_n (pc := 29) (show decode mX2_take.2.1 29 = .ok (.aload_n 0, 1) by decide +kernel) rfl rfl ?_
    refine x_getR (pc := 30) f2_15 rfl rfl (show decode mX2_take.2.1 30 = .ok (.getfield 15, 3) by decide +kernel) ?_
    refine x_iload_n (pc := 33) (show decode mX2_take.2.1 33 = .ok (.iload_n 2, 1) by decide +kernel) rfl rfl ?_
    obtain ⟨hg, hR⟩ := hR
    refine x_lald (pc := 34) rfl (by decide) hg (show decode mX2_take.2.1 34 = .ok (.laload, 1) by decide +kernel) ?_
    refine x_lor (pc := 35) (show decode mX2_take.2.1 35 = .ok (.lor, 1) by decide +kernel) ?_
    refine x_lor (pc := 36) (show decode mX2_take.2.1 36 = .ok (.lor, 1) by decide +kernel) ?_
    obtain ⟨hg, hR⟩ := hR
    refine x_last (pc := 37) rfl (by decide) hg (show decode mX2_take.2.1 37 = .ok (.lastore, 1) by decide +kernel) ?_
    refine x_aload_n (pc := 38) (show decode mX2_take.2.1 38 = .ok (.aload_n 0, 1) by decide +kernel) rfl rfl ?_
    refine x_getR (pc := 39) f2_18 rfl rfl (show decode mX2_take.2.1 39 = .ok (.getfield 18, 3) by decide +kernel) ?_
    refine x_iload_n (pc := 42) (show decode mX2_take.2.1 42 = .ok (.iload_n 1, 1) by decide +kernel) rfl rfl ?_
    refine x_aload_n (pc := 43) (show decode mX2_take.2.1 43 = .ok (.aload_n 0, 1) by decide +kernel) rfl rfl ?_
    refine x_getR (pc := 44) f2_18 rfl rfl (show decode mX2_take.2.1 44 = .ok (.getfield 18, 3) by decide +kernel) ?_
    refine x_iload_n (pc := 47) (show decode mX2_take.2.1 47 = .ok (.iload_n 1, 1) by decide +kernel) rfl rfl ?_
    obtain ⟨hg, hR⟩ := hR
    refine x_iald (pc := 48) rfl (by decide) hg (show decode mX2_take.2.1 48 = .ok (.iaload, 1) by decide +kernel) ?_
    refine x_aload_n (pc := 49) (show decode mX2_take.2.1 49 = .ok (.aload_n 0, 1) by decide +kernel) rfl rfl ?_
    refine x_getR (pc := 50) f2_18 rfl rfl (show decode mX2_take.2.1 50 = .ok (.getfield 18, 3) by decide +kernel) ?_
    refine x_iload_n (pc := 53) (show decode mX2_take.2.1 53 = .ok (.iload_n 2, 1) by decide +kernel) rfl rfl ?_
    obtain ⟨hg, hR⟩ := hR
    refine x_iald (pc := 54) rfl (by decide) hg (show decode mX2_take.2.1 54 = .ok (.iaload, 1) by decide +kernel) ?_
    refine x_iconst (pc := 55) (n := 1) (show decode mX2_take.2.1 55 = .ok (.iconst 1, 1) by decide +kernel) ?_
    refine x_iadd (pc := 56) (show decode mX2_take.2.1 56 = .ok (.iadd, 1) by decide +kernel) ?_
    obtain ⟨hg, hR⟩ := hR
    refine x_mmax (pc := 57) (tblG_m2 146 rfl rfl) MX_st M_in MX_cd ⟨hg.1, hg.2⟩ (Nat.le_of_ble_eq_true rfl) hd (show decode mX2_take.2.1 57 = .ok (.invokestatic 58, 3) by decide +kernel) ?_
    obtain ⟨hg, hR⟩ := hR
    refine x_iast (pc := 60) rfl (by decide) hg (show decode mX2_take.2.1 60 = .ok (.iastore, 1) by decide +kernel) ?_
    exact x_vret (pc := 61) rfl (show decode mX2_take.2.1 61 = .ok (.return_, 1) by decide +kernel) ⟨rfl, hR⟩
  · replace hR := hR.2 hc
    exact x_vret (pc := 4) rfl (show decode mX2_take.2.1 4 = .ok (.return_, 1) by decide +kernel) ⟨rfl, hR⟩
set_option maxRecDepth 4000 in
theorem sg_X2_neededBy_0 {d : Nat} {x1 x2 : Int} {h : xH} {Q : Int → xH → Prop}
    (hR : gL wdC d mX2_neededBy 5 [some (.inr (.inr 26)), some (.inl x1), some (.inl x2), some (.inr (.inl 0)), none, some (.inl 0)] h Q) :
    gL wdC d mX2_neededBy 0 [some (.inr (.inr 26)), some (.inl x1), some (.inl x2), none, none, none] h Q := by
  unfold gL
  refine x_lconst (pc := 0) (v := 0) (show decode mX2_neededBy.2.1 0 = .ok (.lconst 0, 1) by decide +kernel) rfl ?_
  refine x_lstore_n (pc := 1) (ls' := [some (.inr (.inr 26)), some (.inl x1), some (.inl x2), some (.inr (.inl 0)), none, none]) (show decode mX2_neededBy.2.1 1 = .ok (.lstore_n 3, 1) by decide +kernel) rfl (by decide) rfl ?_
  refine x_iconst (pc := 2) (n := 0) (show decode mX2_neededBy.2.1 2 = .ok (.iconst 0, 1) by decide +kernel) ?_
  refine x_istore (pc := 3) (ls' := [some (.inr (.inr 26)), some (.inl x1), some (.inl x2), some (.inr (.inl 0)), none, some (.inl 0)]) (show decode mX2_neededBy.2.1 3 = .ok (.istore 5, 2) by decide +kernel) (by decide) rfl ?_
  exact hR
set_option maxRecDepth 4000 in
theorem sg_X2_neededBy_5 {d : Nat} {x1 x2 x3 x5 : Int} {h : xH} {Q : Int → xH → Prop} (hd : 1 ≤ d)
    (hR : (inI x5 ∧ inI x2) ∧ (x2 ≤ x5 → Q x3 h) ∧ (x5 < x2 → (0 ≤ x5 ∧ x5 < 30) ∧ cB wdC (d - 1) mX7_hasPin [.inr (.inl (h 28 x5)), .inl x1] h (fun h1 => cL wdC (d - 1) mX7_pinBit [.inl x5] h1 (fun r3 h2 => gL wdC d mX2_neededBy 5 [some (.inr (.inr 26)), some (.inl x1), some (.inl x2), some (.inr (.inl (xorL x3 r3))), none, some (.inl (x5 + 1))] h2 Q)) (fun h1 => gL wdC d mX2_neededBy 5 [some (.inr (.inr 26)), some (.inl x1), some (.inl x2), some (.inr (.inl x3)), none, some (.inl (x5 + 1))] h1 Q))) :
    gL wdC d mX2_neededBy 5 [some (.inr (.inr 26)), some (.inl x1), some (.inl x2), some (.inr (.inl x3)), none, some (.inl x5)] h Q := by
  unfold gL
  refine x_iload (pc := 5) (show decode mX2_neededBy.2.1 5 = .ok (.iload 5, 2) by decide +kernel) rfl ?_
  refine x_iload_n (pc := 7) (show decode mX2_neededBy.2.1 7 = .ok (.iload_n 2, 1) by decide +kernel) rfl rfl ?_
  obtain ⟨hg, hR⟩ := hR
  refine x_icmp_ge (pc := 8) (tgt := 39) (show decode mX2_neededBy.2.1 8 = .ok (.if_icmp .ge 31, 3) by decide +kernel) (by decide) ⟨hg.1, hg.2⟩ (fun hc => ?_) (fun hc => ?_)
  · replace hR := hR.1 hc
    refine x_lload_n (pc := 39) (show decode mX2_neededBy.2.1 39 = .ok (.lload_n 3, 1) by decide +kernel) rfl rfl ?_
    exact x_lret (pc := 40) rfl (show decode mX2_neededBy.2.1 40 = .ok (.lreturn, 1) by decide +kernel) ⟨_, rfl, hR⟩
  · replace hR := hR.2 hc
    refine x_aload_n (pc := 11) (show decode mX2_neededBy.2.1 11 = .ok (.aload_n 0, 1) by decide +kernel) rfl rfl ?_
    refine x_getR (pc := 12) f2_15 rfl rfl (show decode mX2_neededBy.2.1 12 = .ok (.getfield 15, 3) by decide +kernel) ?_
    refine x_iload (pc := 15) (show decode mX2_neededBy.2.1 15 = .ok (.iload 5, 2) by decide +kernel) rfl ?_
    obtain ⟨hg, hR⟩ := hR
    refine x_lald (pc := 17) rfl (by decide) hg (show decode mX2_neededBy.2.1 17 = .ok (.laload, 1) by decide +kernel) ?_
    refine x_iload_n (pc := 18) (show decode mX2_neededBy.2.1 18 = .ok (.iload_n 1, 1) by decide +kernel) rfl rfl ?_
    refine x_callSN (pc := 19) (As := [.inr (.inl (h 28 x5)), .inl x1]) (rest := []) (lk2_64 rfl) sm_X7_hasPin (Nat.le_of_ble_eq_true rfl) (Nat.le_of_ble_eq_true rfl) (show decode mX2_neededBy.2.1 19 = .ok (.invokestatic 64, 3) by decide +kernel) hd hR (fun r9 h1 hq => ?_)
    obtain ⟨r8, rfl, hq⟩ := hq
    rcases hq with ⟨rfl, hR⟩ | ⟨rfl, hR⟩
    · show xG _ _ _ 22 _ [.inl 1] _ _
      refine x_if_eq (pc := 22) (tgt := 33) (show decode mX2_neededBy.2.1 22 = .ok (.ifCond .eq 11, 3) by decide +kernel) (by decide) (by unfold inI; decide) (fun hc => absurd hc (by decide)) (fun _ => ?_)
      refine x_lload_n (pc := 25) (show decode mX2_neededBy.2.1 25 = .ok (.lload_n 3, 1) by decide +kernel) rfl rfl ?_
      refine x_iload (pc := 26) (show decode mX2_neededBy.2.1 26 = .ok (.iload 5, 2) by decide +kernel) rfl ?_
      refine x_callSN (pc := 28) (As := [.inl x5]) (rest := [.inr (.inl x3)]) (lk2_54 rfl) sm_X7_pinBit (Nat.le_of_ble_eq_true rfl) (Nat.le_of_ble_eq_true rfl) (show decode mX2_neededBy.2.1 28 = .ok (.invokestatic 54, 3) by decide +kernel) hd hR (fun r9 h2 hq => ?_)
      obtain ⟨r3, rfl, hR⟩ := hq
      show xG _ _ _ 31 _ [.inr (.inl r3), .inr (.inl x3)] _ _
      refine x_lor (pc := 31) (show decode mX2_neededBy.2.1 31 = .ok (.lor, 1) by decide +kernel) ?_
      refine x_lstore_n (pc := 32) (ls' := [some (.inr (.inr 26)), some (.inl x1), some (.inl x2), some (.inr (.inl (xorL x3 r3))), none, some (.inl x5)]) (show decode mX2_neededBy.2.1 32 = .ok (.lstore_n 3, 1) by decide +kernel) rfl (by decide) rfl ?_
      refine x_iinc (pc := 33) (ls' := [some (.inr (.inr 26)), some (.inl x1), some (.inl x2), some (.inr (.inl (xorL x3 r3))), none, some (.inl (x5 + 1))]) (show decode mX2_neededBy.2.1 33 = .ok (.iinc 5 1, 3) by decide +kernel) (by decide) rfl rfl ?_
      refine x_goto (pc := 36) (tgt := 5) (show decode mX2_neededBy.2.1 36 = .ok (.goto (-31), 3) by decide +kernel) (by decide) ?_
      exact hR
    · show xG _ _ _ 22 _ [.inl 0] _ _
      refine x_if_eq (pc := 22) (tgt := 33) (show decode mX2_neededBy.2.1 22 = .ok (.ifCond .eq 11, 3) by decide +kernel) (by decide) (by unfold inI; decide) (fun _ => ?_) (fun hc => absurd hc (by decide))
      refine x_iinc (pc := 33) (ls' := [some (.inr (.inr 26)), some (.inl x1), some (.inl x2), some (.inr (.inl x3)), none, some (.inl (x5 + 1))]) (show decode mX2_neededBy.2.1 33 = .ok (.iinc 5 1, 3) by decide +kernel) (by decide) rfl rfl ?_
      refine x_goto (pc := 36) (tgt := 5) (show decode mX2_neededBy.2.1 36 = .ok (.goto (-31), 3) by decide +kernel) (by decide) ?_
      exact hR
set_option maxRecDepth 4000 in
theorem sg_X3_begin_0 {d : Nat} {x1 : Int} {h : xH} {Q : xH → Prop}
    (hR : (0 ≤ x1 ∧ x1 ≤ 31) ∧ Q (xu (xu (xu (xu h 1 0 x1) 1 1 ((1 * 2 ^ (Int.toNat x1)) - 1)) 1 2 0) 1 6 0)) :
    gV wdC d mX3_begin 0 [some (.inr (.inr 1)), some (.inl x1)] h Q := by
  unfold gV
  refine x_aload_n (pc := 0) (show decode mX3_begin.2.1 0 = .ok (.aload_n 0, 1) by decide +kernel) rfl rfl ?_
  refine x_iload_n (pc := 1) (show decode mX3_begin.2.1 1 = .ok (.iload_n 1, 1) by decide +kernel) rfl rfl ?_
  refine x_putI (pc := 2) (ki := 0) f3_9 fp3_0 rfl rfl rfl (show decode mX3_begin.2.1 2 = .ok (.putfield 9, 3) by decide +kernel) ?_
  refine x_aload_n (pc := 5) (show decode mX3_begin.2.1 5 = .ok (.aload_n 0, 1) by decide +kernel) rfl rfl ?_
  refine x_iconst (pc := 6) (n := 1) (show decode mX3_begin.2.1 6 = .ok (.iconst 1, 1) by decide +kernel) ?_
  refine x_iload_n (pc := 7) (show decode mX3_begin.2.1 7 = .ok (.iload_n 1, 1) by decide +kernel) rfl rfl ?_
  obtain ⟨hg, hR⟩ := hR
  refine x_ishl (pc := 8) (show decode mX3_begin.2.1 8 = .ok (.ishl, 1) by decide +kernel) hg ?_
  refine x_iconst (pc := 9) (n := 1) (show decode mX3_begin.2.1 9 = .ok (.iconst 1, 1) by decide +kernel) ?_
  refine x_isub (pc := 10) (show decode mX3_begin.2.1 10 = .ok (.isub, 1) by decide +kernel) ?_
  refine x_putI (pc := 11) (ki := 1) f3_15 fp3_1 rfl rfl rfl (show decode mX3_begin.2.1 11 = .ok (.putfield 15, 3) by decide +kernel) ?_
  refine x_aload_n (pc := 14) (show decode mX3_begin.2.1 14 = .ok (.aload_n 0, 1) by decide +kernel) rfl rfl ?_
  refine x_iconst (pc := 15) (n := 0) (show decode mX3_begin.2.1 15 = .ok (.iconst 0, 1) by decide +kernel) ?_
  refine x_putI (pc := 16) (ki := 2) f3_18 fp3_2 rfl rfl rfl (show decode mX3_begin.2.1 16 = .ok (.putfield 18, 3) by decide +kernel) ?_
  refine x_aload_n (pc := 19) (show decode mX3_begin.2.1 19 = .ok (.aload_n 0, 1) by decide +kernel) rfl rfl ?_
  refine x_iconst (pc := 20) (n := 0) (show decode mX3_begin.2.1 20 = .ok (.iconst 0, 1) by decide +kernel) ?_
  refine x_putI (pc := 21) (ki := 6) f3_31 fp3_6 rfl rfl rfl (show decode mX3_begin.2.1 21 = .ok (.putfield 31, 3) by decide +kernel) ?_
  exact x_vret (pc := 24) rfl (show decode mX3_begin.2.1 24 = .ok (.return_, 1) by decide +kernel) ⟨rfl, hR⟩
set_option maxRecDepth 4000 in
theorem sg_X3_copyFrom_21_1_0 {d : Nat} {h : xH} {Q : xH → Prop} (hd : 1 ≤ d)
    (hR : Q (xcp (xu (xcp (xcp (xcp (xu (xu (xu h 21 0 (h 1 0)) 21 1 (h 1 1)) 21 2 (h 1 2)) 2 22 30) 3 23 30) 4 24 30) 21 6 (h 1 6)) 5 25 10)) :
    gV wdC d mX3_copyFrom 0 [some (.inr (.inr 21)), some (.inr (.inr 1))] h Q := by
  unfold gV
  refine x_aload_n (pc := 0) (show decode mX3_copyFrom.2.1 0 = .ok (.aload_n 0, 1) by decide +kernel) rfl rfl ?_
  refine x_aload_n (pc := 1) (show decode mX3_copyFrom.2.1 1 = .ok (.aload_n 1, 1) by decide +kernel) rfl rfl ?_
  refine x_getI (pc := 2) (ki := 0) f3_9 rfl rfl (by decide) rfl (show decode mX3_copyFrom.2.1 2 = .ok (.getfield 9, 3) by decide +kernel) ?_
  refine x_putI (pc := 5) (ki := 0) f3_9 fp3_0 rfl rfl rfl (show decode mX3_copyFrom.2.1 5 = .ok (.putfield 9, 3) by decide +kernel) ?_
  refine x_aload_n (pc := 8) (show decode mX3_copyFrom.2.1 8 = .ok (.aload_n 0, 1) by decide +kernel) rfl rfl ?_
  refine x_aload_n (pc := 9) (show decode mX3_copyFrom.2.1 9 = .ok (.aload_n 1, 1) by decide +kernel) rfl rfl ?_
  refine x_getI (pc := 10) (ki := 1) f3_15 rfl rfl (by decide) rfl (show decode mX3_copyFrom.2.1 10 = .ok (.getfield 15, 3) by decide +kernel) ?_
  refine x_putI (pc := 13) (ki := 1) f3_15 fp3_1 rfl rfl rfl (show decode mX3_copyFrom.2.1 13 = .ok (.putfield 15, 3) by decide +kernel) ?_
  refine x_aload_n (pc := 16) (show decode mX3_copyFrom.2.1 16 = .ok (.aload_n 0, 1) by decide +kernel) rfl rfl ?_
  refine x_aload_n (pc := 17) (show decode mX3_copyFrom.2.1 17 = .ok (.aload_n 1, 1) by decide +kernel) rfl rfl ?_
  refine x_getI (pc := 18) (ki := 2) f3_18 rfl rfl (by decide) rfl (show decode mX3_copyFrom.2.1 18 = .ok (.getfield 18, 3) by decide +kernel) ?_
  refine x_putI (pc := 21) (ki := 2) f3_18 fp3_2 rfl rfl rfl (show decode mX3_copyFrom.2.1 21 = .ok (.putfield 18, 3) by decide +kernel) ?_
  refine x_aload_n (pc := 24) (show decode mX3_copyFrom.2.1 24 = .ok (.aload_n 1, 1) by decide +kernel) rfl rfl ?_
  refine x_getR (pc := 25) f3_21 rfl rfl (show decode mX3_copyFrom.2.1 25 = .ok (.getfield 21, 3) by decide +kernel) ?_
  refine x_iconst (pc := 28) (n := 0) (show decode mX3_copyFrom.2.1 28 = .ok (.iconst 0, 1) by decide +kernel) ?_
  refine x_aload_n (pc := 29) (show decode mX3_copyFrom.2.1 29 = .ok (.aload_n 0, 1) by decide +kernel) rfl rfl ?_
  refine x_getR (pc := 30) f3_21 rfl rfl (show decode mX3_copyFrom.2.1 30 = .ok (.getfield 21, 3) by decide +kernel) ?_
  refine x_iconst (pc := 33) (n := 0) (show decode mX3_copyFrom.2.1 33 = .ok (.iconst 0, 1) by decide +kernel) ?_
  refine x_bipush (pc := 34) (n := 30) (show decode mX3_copyFrom.2.1 34 = .ok (.bipush 30, 2) by decide +kernel) rfl ?_
  refine x_copy (pc := 36) rfl rfl (tblG_m4 171 rfl rfl) ac_native ac_static ac_init (by decide) (Nat.le_of_ble_eq_true rfl) hd (show decode mX3_copyFrom.2.1 36 = .ok (.invokestatic 37, 3) by decide +kernel) ?_
  refine x_aload_n (pc := 39) (show decode mX3_copyFrom.2.1 39 = .ok (.aload_n 1, 1) by decide +kernel) rfl rfl ?_
  refine x_getR (pc := 40) f3_25 rfl rfl (show decode mX3_copyFrom.2.1 40 = .ok (.getfield 25, 3) by decide +kernel) ?_
  refine x_iconst (pc := 43) (n := 0) (show decode mX3_copyFrom.2.1 43 = .ok (.iconst 0, 1) by decide +kernel) ?_
  refine x_aload_n (pc := 44) (show decode mX3_copyFrom.2.1 44 = .ok (.aload_n 0, 1) by decide +kernel) rfl rfl ?_
  refine x_getR (pc := 45) f3_25 rfl rfl (show decode mX3_copyFrom.2.1 45 = .ok (.getfield 25, 3) by decide +kernel) ?_
  refine x_iconst (pc := 48) (n := 0) (show decode mX3_copyFrom.2.1 48 = .ok (.iconst 0, 1) by decide +kernel) ?_
  refine x_bipush (pc := 49) (n := 30) (show decode mX3_copyFrom.2.1 49 = .ok (.bipush 30, 2) by decide +kernel) rfl ?_
  refine x_copy (pc := 51) rfl rfl (tblG_m4 171 rfl rfl) ac_native ac_static ac_init (by decide) (Nat.le_of_ble_eq_true rfl) hd (show decode mX3_copyFrom.2.1 51 = .ok (.invokestatic 37, 3) by decide +kernel) ?_
  refine x_aload_n (pc := 54) (show decode mX3_copyFrom.2.1 54 = .ok (.aload_n 1, 1) by decide +kernel) rfl rfl ?_
  refine x_getR (pc := 55) f3_28 rfl rfl (show decode mX3_copyFrom.2.1 55 = .ok (.getfield 28, 3) by decide +kernel) ?_
  refine x_iconst (pc := 58) (n := 0) (show decode mX3_copyFrom.2.1 58 = .ok (.iconst 0, 1) by decide +kernel) ?_
  refine x_aload_n (pc := 59) (show decode mX3_copyFrom.2.1 59 = .ok (.aload_n 0, 1) by decide +kernel) rfl rfl ?_
  refine x_getR (pc := 60) f3_28 rfl rfl (show decode mX3_copyFrom.2.1 60 = .ok (.getfield 28, 3) by decide +kernel) ?_
  refine x_iconst (pc := 63) (n := 0) (show decode mX3_copyFrom.2.1 63 = .ok (.iconst 0, 1) by decide +kernel) ?_
  refine x_bipush (pc := 64) (n := 30) (show decode mX3_copyFrom.2.1 64 = .ok (.bipush 30, 2) by decide +kernel) rfl ?_
  refine x_copy (pc := 66) rfl rfl (tblG_m4 171 rfl rfl) ac_native ac_static ac_init (by decide) (Nat.le_of_ble_eq_true rfl) hd (show decode mX3_copyFrom.2.1 66 = .ok (.invokestatic 37, 3) by decide +kernel) ?_
  refine x_aload_n (pc := 69) (show decode mX3_copyFrom.2.1 69 = .ok (.aload_n 0, 1) by decide +kernel) rfl rfl ?_
  refine x_aload_n (pc := 70) (show decode mX3_copyFrom.2.1 70 = .ok (.aload_n 1, 1) by decide +kernel) rfl rfl ?_
  refine x_getI (pc := 71) (ki := 6) f3_31 rfl rfl (by decide) rfl (show decode mX3_copyFrom.2.1 71 = .ok (.getfield 31, 3) by decide +kernel) ?_
  refine x_putI (pc := 74) (ki := 6) f3_31 fp3_6 rfl rfl rfl (show decode mX3_copyFrom.2.1 74 = .ok (.putfield 31, 3) by decide +kernel) ?_
  refine x_aload_n (pc := 77) (show decode mX3_copyFrom.2.1 77 = .ok (.aload_n 1, 1) by decide +kernel) rfl rfl ?_
  refine x_getR (pc := 78) f3_34 rfl rfl (show decode mX3_copyFrom.2.1 78 = .ok (.getfield 34, 3) by decide +kernel) ?_
  refine x_iconst (pc := 81) (n := 0) (show decode mX3_copyFrom.2.1 81 = .ok (.iconst 0, 1) by decide +kernel) ?_
  refine x_aload_n (pc := 82) (show decode mX3_copyFrom.2.1 82 = .ok (.aload_n 0, 1) by decide +kernel) rfl rfl ?_
  refine x_getR (pc := 83) f3_34 rfl rfl (show decode mX3_copyFrom.2.1 83 = .ok (.getfield 34, 3) by decide +kernel) ?_
  refine x_iconst (pc := 86) (n := 0) (show decode mX3_copyFrom.2.1 86 = .ok (.iconst 0, 1) by decide +kernel) ?_
  refine x_bipush (pc := 87) (n := 10) (show decode mX3_copyFrom.2.1 87 = .ok (.bipush 10, 2) by decide +kernel) rfl ?_
  refine x_copy (pc := 89) rfl rfl (tblG_m4 171 rfl rfl) ac_native ac_static ac_init (by decide) (Nat.le_of_ble_eq_true rfl) hd (show decode mX3_copyFrom.2.1 89 = .ok (.invokestatic 37, 3) by decide +kernel) ?_
  exact x_vret (pc := 92) rfl (show decode mX3_copyFrom.2.1 92 = .ok (.return_, 1) by decide +kernel) ⟨rfl, hR⟩
set_option maxRecDepth 4000 in
theorem sg_X3_copyFrom_1_21_0 {d : Nat} {h : xH} {Q : xH → Prop} (hd : 1 ≤ d)
    (hR : Q (xcp (xu (xcp (xcp (xcp (xu (xu (xu h 1 0 (h 21 0)) 1 1 (h 21 1)) 1 2 (h 21 2)) 22 2 30) 23 3 30) 24 4 30) 1 6 (h 21 6)) 25 5 10)) :
    gV wdC d mX3_copyFrom 0 [some (.inr (.inr 1)), some (.inr (.inr 21))] h Q := by
  unfold gV
  refine x_aload_n (pc := 0) (show decode mX3_copyFrom.2.1 0 = .ok (.aload_n 0, 1) by decide +kernel) rfl rfl ?_
  refine x_aload_n (pc := 1) (show decode mX3_copyFrom.2.1 1 = .ok (.aload_n 1, 1) by decide +kernel) rfl rfl ?_
  refine x_getI (pc := 2) (ki := 0) f3_9 rfl rfl (by decide) rfl (show decode mX3_copyFrom.2.1 2 = .ok (.getfield 9, 3) by decide +kernel) ?_
  refine x_putI (pc := 5) (ki := 0) f3_9 fp3_0 rfl rfl rfl (show decode mX3_copyFrom.2.1 5 = .ok (.putfield 9, 3) by decide +kernel) ?_
  refine x_aload_n (pc := 8) (show decode mX3_copyFrom.2.1 8 = .ok (.aload_n 0, 1) by decide +kernel) rfl rfl ?_
  refine x_aload_n (pc := 9) (show decode mX3_copyFrom.2.1 9 = .ok (.aload_n 1, 1) by decide +kernel) rfl rfl ?_
  refine x_getI (pc := 10) (ki := 1) f3_15 rfl rfl (by decide) rfl (show decode mX3_copyFrom.2.1 10 = .ok (.getfield 15, 3) by decide +kernel) ?_
  refine x_putI (pc := 13) (ki := 1) f3_15 fp3_1 rfl rfl rfl (show decode mX3_copyFrom.2.1 13 = .ok (.putfield 15, 3) by decide +kernel) ?_
  refine x_aload_n (pc := 16) (show decode mX3_copyFrom.2.1 16 = .ok (.aload_n 0, 1) by decide +kernel) rfl rfl ?_
  refine x_aload_n (pc := 17) (show decode mX3_copyFrom.2.1 17 = .ok (.aload_n 1, 1) by decide +kernel) rfl rfl ?_
  refine x_getI (pc := 18) (ki := 2) f3_18 rfl rfl (by decide) rfl (show decode mX3_copyFrom.2.1 18 = .ok (.getfield 18, 3) by decide +kernel) ?_
  refine x_putI (pc := 21) (ki := 2) f3_18 fp3_2 rfl rfl rfl (show decode mX3_copyFrom.2.1 21 = .ok (.putfield 18, 3) by decide +kernel) ?_
  refine x_aload_n (pc := 24) (show decode mX3_copyFrom.2.1 24 = .ok (.aload_n 1, 1) by decide +kernel) rfl rfl ?_
  refine x_getR (pc := 25) f3_21 rfl rfl (show decode mX3_copyFrom.2.1 25 = .ok (.getfield 21, 3) by decide +kernel) ?_
  refine x_iconst (pc := 28) (n := 0) (show decode mX3_copyFrom.2.1 28 = .ok (.iconst 0, 1) by decide +kernel) ?_
  refine x_aload_n (pc := 29) (show decode mX3_copyFrom.2.1 29 = .ok (.aload_n 0, 1) by decide +kernel) rfl rfl ?_
  refine x_getR (pc := 30) f3_21 rfl rfl (show decode mX3_copyFrom.2.1 30 = .ok (.getfield 21, 3) by decide +kernel) ?_
  refine x_iconst (pc := 33) (n := 0) (show decode mX3_copyFrom.2.1 33 = .ok (.iconst 0, 1) by decide +kernel) ?_
  refine x_bipush (pc := 34) (n := 30) (show decode mX3_copyFrom.2.1 34 = .ok (.bipush 30, 2) by decide +kernel) rfl ?_
  refine x_copy (pc := 36) rfl rfl (tblG_m4 171 rfl rfl) ac_native ac_static ac_init (by decide) (Nat.le_of_ble_eq_true rfl) hd (show decode mX3_copyFrom.2.1 36 = .ok (.invokestatic 37, 3) by decide +kernel) ?_
  refine x_aload_n (pc := 39) (show decode mX3_copyFrom.2.1 39 = .ok (.aload_n 1, 1) by decide +kernel) rfl rfl ?_
  refine x_getR (pc := 40) f3_25 rfl rfl (show decode mX3_copyFrom.2.1 40 = .ok (.getfield 25, 3) by decide +kernel) ?_
  refine x_iconst (pc := 43) (n := 0) (show decode mX3_copyFrom.2.1 43 = .ok (.iconst 0, 1) by decide +kernel) ?_
  refine x_aload_n (pc := 44) (show decode mX3_copyFrom.2.1 44 = .ok (.aload_n 0, 1) by decide +kernel) rfl rfl ?_
  refine x_getR (pc := 45) f3_25 rfl rfl (show decode mX3_copyFrom.2.1 45 = .ok (.getfield 25, 3) by decide +kernel) ?_
  refine x_iconst (pc := 48) (n := 0) (show decode mX3_copyFrom.2.1 48 = .ok (.iconst 0, 1) by decide +kernel) ?_
  refine x_bipush (pc := 49) (n := 30) (show decode mX3_copyFrom.2.1 49 = .ok (.bipush 30, 2) by decide +kernel) rfl ?_
  refine x_copy (pc := 51) rfl rfl (tblG_m4 171 rfl rfl) ac_native ac_static ac_init (by decide) (Nat.le_of_ble_eq_true rfl) hd (show decode mX3_copyFrom.2.1 51 = .ok (.invokestatic 37, 3) by decide +kernel) ?_
  refine x_aload_n (pc := 54) (show decode mX3_copyFrom.2.1 54 = .ok (.aload_n 1, 1) by decide +kernel) rfl rfl ?_
  refine x_getR (pc := 55) f3_28 rfl rfl (show decode mX3_copyFrom.2.1 55 = .ok (.getfield 28, 3) by decide +kernel) ?_
  refine x_iconst (pc := 58) (n := 0) (show decode mX3_copyFrom.2.1 58 = .ok (.iconst 0, 1) by decide +kernel) ?_
  refine x_aload_n (pc := 59) (show decode mX3_copyFrom.2.1 59 = .ok (.aload_n 0, 1) by decide +kernel) rfl rfl ?_
  refine x_getR (pc := 60) f3_28 rfl rfl (show decode mX3_copyFrom.2.1 60 = .ok (.getfield 28, 3) by decide +kernel) ?_
  refine x_iconst (pc := 63) (n := 0) (show decode mX3_copyFrom.2.1 63 = .ok (.iconst 0, 1) by decide +kernel) ?_
  refine x_bipush (pc := 64) (n := 30) (show decode mX3_copyFrom.2.1 64 = .ok (.bipush 30, 2) by decide +kernel) rfl ?_
  refine x_copy (pc := 66) rfl rfl (tblG_m4 171 rfl rfl) ac_native ac_static ac_init (by decide) (Nat.le_of_ble_eq_true rfl) hd (show decode mX3_copyFrom.2.1 66 = .ok (.invokestatic 37, 3) by decide +kernel) ?_
  refine x_aload_n (pc := 69) (show decode mX3_copyFrom.2.1 69 = .ok (.aload_n 0, 1) by decide +kernel) rfl rfl ?_
  refine x_aload_n (pc := 70) (show decode mX3_copyFrom.2.1 70 = .ok (.aload_n 1, 1) by decide +kernel) rfl rfl ?_
  refine x_getI (pc := 71) (ki := 6) f3_31 rfl rfl (by decide) rfl (show decode mX3_copyFrom.2.1 71 = .ok (.getfield 31, 3) by decide +kernel) ?_
  refine x_putI (pc := 74) (ki := 6) f3_31 fp3_6 rfl rfl rfl (show decode mX3_copyFrom.2.1 74 = .ok (.putfield 31, 3) by decide +kernel) ?_
  refine x_aload_n (pc := 77) (show decode mX3_copyFrom.2.1 77 = .ok (.aload_n 1, 1) by decide +kernel) rfl rfl ?_
  refine x_getR (pc := 78) f3_34 rfl rfl (show decode mX3_copyFrom.2.1 78 = .ok (.getfield 34, 3) by decide +kernel) ?_
  refine x_iconst (pc := 81) (n := 0) (show decode mX3_copyFrom.2.1 81 = .ok (.iconst 0, 1) by decide +kernel) ?_
  refine x_aload_n (pc := 82) (show decode mX3_copyFrom.2.1 82 = .ok (.aload_n 0, 1) by decide +kernel) rfl rfl ?_
  refine x_getR (pc := 83) f3_34 rfl rfl (show decode mX3_copyFrom.2.1 83 = .ok (.getfield 34, 3) by decide +kernel) ?_
  refine x_iconst (pc := 86) (n := 0) (show decode mX3_copyFrom.2.1 86 = .ok (.iconst 0, 1) by decide +kernel) ?_
  refine x_bipush (pc := 87) (n := 10) (show decode mX3_copyFrom.2.1 87 = .ok (.bipush 10, 2) by decide +kernel) rfl ?_
  refine x_copy (pc := 89) rfl rfl (tblG_m4 171 rfl rfl) ac_native ac_static ac_init (by decide) (Nat.le_of_ble_eq_true rfl) hd (show decode mX3_copyFrom.2.1 89 = .ok (.invokestatic 37, 3) by decide +kernel) ?_
  exact x_vret (pc := 92) rfl (show decode mX3_copyFrom.2.1 92 = .ok (.return_, 1) by decide +kernel) ⟨rfl, hR⟩
set_option maxRecDepth 4000 in
theorem sg_X3_copyFrom_11_1_0 {d : Nat} {h : xH} {Q : xH → Prop} (hd : 1 ≤ d)
    (hR : Q (xcp (xu (xcp (xcp (xcp (xu (xu (xu h 11 0 (h 1 0)) 11 1 (h 1 1)) 11 2 (h 1 2)) 2 12 30) 3 13 30) 4 14 30) 11 6 (h 1 6)) 5 15 10)) :
    gV wdC d mX3_copyFrom 0 [some (.inr (.inr 11)), some (.inr (.inr 1))] h Q := by
  unfold gV
  refine x_aload_n (pc := 0) (show decode mX3_copyFrom.2.1 0 = .ok (.aload_n 0, 1) by decide +kernel) rfl rfl ?_
  refine x_aload_n (pc := 1) (show decode mX3_copyFrom.2.1 1 = .ok (.aload_n 1, 1) by decide +kernel) rfl rfl ?_
  refine x_getI (pc := 2) (ki := 0) f3_9 rfl rfl (by decide) rfl (show decode mX3_copyFrom.2.1 2 = .ok (.getfield 9, 3) by decide +kernel) ?_
  refine x_putI (pc := 5) (ki := 0) f3_9 fp3_0 rfl rfl rfl (show decode mX3_copyFrom.2.1 5 = .ok (.putfield 9, 3) by decide +kernel) ?_
  refine x_aload_n (pc := 8) (show decode mX3_copyFrom.2.1 8 = .ok (.aload_n 0, 1) by decide +kernel) rfl rfl ?_
  refine x_aload_n (pc := 9) (show decode mX3_copyFrom.2.1 9 = .ok (.aload_n 1, 1) by decide +kernel) rfl rfl ?_
  refine x_getI (pc := 10) (ki := 1) f3_15 rfl rfl (by decide) rfl (show decode mX3_copyFrom.2.1 10 = .ok (.getfield 15, 3) by decide +kernel) ?_
  refine x_putI (pc := 13) (ki := 1) f3_15 fp3_1 rfl rfl rfl (show decode mX3_copyFrom.2.1 13 = .ok (.putfield 15, 3) by decide +kernel) ?_
  refine x_aload_n (pc := 16) (show decode mX3_copyFrom.2.1 16 = .ok (.aload_n 0, 1) by decide +kernel) rfl rfl ?_
  refine x_aload_n (pc := 17) (show decode mX3_copyFrom.2.1 17 = .ok (.aload_n 1, 1) by decide +kernel) rfl rfl ?_
  refine x_getI (pc := 18) (ki := 2) f3_18 rfl rfl (by decide) rfl (show decode mX3_copyFrom.2.1 18 = .ok (.getfield 18, 3) by decide +kernel) ?_
  refine x_putI (pc := 21) (ki := 2) f3_18 fp3_2 rfl rfl rfl (show decode mX3_copyFrom.2.1 21 = .ok (.putfield 18, 3) by decide +kernel) ?_
  refine x_aload_n (pc := 24) (show decode mX3_copyFrom.2.1 24 = .ok (.aload_n 1, 1) by decide +kernel) rfl rfl ?_
  refine x_getR (pc := 25) f3_21 rfl rfl (show decode mX3_copyFrom.2.1 25 = .ok (.getfield 21, 3) by decide +kernel) ?_
  refine x_iconst (pc := 28) (n := 0) (show decode mX3_copyFrom.2.1 28 = .ok (.iconst 0, 1) by decide +kernel) ?_
  refine x_aload_n (pc := 29) (show decode mX3_copyFrom.2.1 29 = .ok (.aload_n 0, 1) by decide +kernel) rfl rfl ?_
  refine x_getR (pc := 30) f3_21 rfl rfl (show decode mX3_copyFrom.2.1 30 = .ok (.getfield 21, 3) by decide +kernel) ?_
  refine x_iconst (pc := 33) (n := 0) (show decode mX3_copyFrom.2.1 33 = .ok (.iconst 0, 1) by decide +kernel) ?_
  refine x_bipush (pc := 34) (n := 30) (show decode mX3_copyFrom.2.1 34 = .ok (.bipush 30, 2) by decide +kernel) rfl ?_
  refine x_copy (pc := 36) rfl rfl (tblG_m4 171 rfl rfl) ac_native ac_static ac_init (by decide) (Nat.le_of_ble_eq_true rfl) hd (show decode mX3_copyFrom.2.1 36 = .ok (.invokestatic 37, 3) by decide +kernel) ?_
  refine x_aload_n (pc := 39) (show decode mX3_copyFrom.2.1 39 = .ok (.aload_n 1, 1) by decide +kernel) rfl rfl ?_
  refine x_getR (pc := 40) f3_25 rfl rfl (show decode mX3_copyFrom.2.1 40 = .ok (.getfield 25, 3) by decide +kernel) ?_
  refine x_iconst (pc := 43) (n := 0) (show decode mX3_copyFrom.2.1 43 = .ok (.iconst 0, 1) by decide +kernel) ?_
  refine x_aload_n (pc := 44) (show decode mX3_copyFrom.2.1 44 = .ok (.aload_n 0, 1) by decide +kernel) rfl rfl ?_
  refine x_getR (pc := 45) f3_25 rfl rfl (show decode mX3_copyFrom.2.1 45 = .ok (.getfield 25, 3) by decide +kernel) ?_
  refine x_iconst (pc := 48) (n := 0) (show decode mX3_copyFrom.2.1 48 = .ok (.iconst 0, 1) by decide +kernel) ?_
  refine x_bipush (pc := 49) (n := 30) (show decode mX3_copyFrom.2.1 49 = .ok (.bipush 30, 2) by decide +kernel) rfl ?_
  refine x_copy (pc := 51) rfl rfl (tblG_m4 171 rfl rfl) ac_native ac_static ac_init (by decide) (Nat.le_of_ble_eq_true rfl) hd (show decode mX3_copyFrom.2.1 51 = .ok (.invokestatic 37, 3) by decide +kernel) ?_
  refine x_aload_n (pc := 54) (show decode mX3_copyFrom.2.1 54 = .ok (.aload_n 1, 1) by decide +kernel) rfl rfl ?_
  refine x_getR (pc := 55) f3_28 rfl rfl (show decode mX3_copyFrom.2.1 55 = .ok (.getfield 28, 3) by decide +kernel) ?_
  refine x_iconst (pc := 58) (n := 0) (show decode mX3_copyFrom.2.1 58 = .ok (.iconst 0, 1) by decide +kernel) ?_
  refine x_aload_n (pc := 59) (show decode mX3_copyFrom.2.1 59 = .ok (.aload_n 0, 1) by decide +kernel) rfl rfl ?_
  refine x_getR (pc := 60) f3_28 rfl rfl (show decode mX3_copyFrom.2.1 60 = .ok (.getfield 28, 3) by decide +kernel) ?_
  refine x_iconst (pc := 63) (n := 0) (show decode mX3_copyFrom.2.1 63 = .ok (.iconst 0, 1) by decide +kernel) ?_
  refine x_bipush (pc := 64) (n := 30) (show decode mX3_copyFrom.2.1 64 = .ok (.bipush 30, 2) by decide +kernel) rfl ?_
  refine x_copy (pc := 66) rfl rfl (tblG_m4 171 rfl rfl) ac_native ac_static ac_init (by decide) (Nat.le_of_ble_eq_true rfl) hd (show decode mX3_copyFrom.2.1 66 = .ok (.invokestatic 37, 3) by decide +kernel) ?_
  refine x_aload_n (pc := 69) (show decode mX3_copyFrom.2.1 69 = .ok (.aload_n 0, 1) by decide +kernel) rfl rfl ?_
  refine x_aload_n (pc := 70) (show decode mX3_copyFrom.2.1 70 = .ok (.aload_n 1, 1) by decide +kernel) rfl rfl ?_
  refine x_getI (pc := 71) (ki := 6) f3_31 rfl rfl (by decide) rfl (show decode mX3_copyFrom.2.1 71 = .ok (.getfield 31, 3) by decide +kernel) ?_
  refine x_putI (pc := 74) (ki := 6) f3_31 fp3_6 rfl rfl rfl (show decode mX3_copyFrom.2.1 74 = .ok (.putfield 31, 3) by decide +kernel) ?_
  refine x_aload_n (pc := 77) (show decode mX3_copyFrom.2.1 77 = .ok (.aload_n 1, 1) by decide +kernel) rfl rfl ?_
  refine x_getR (pc := 78) f3_34 rfl rfl (show decode mX3_copyFrom.2.1 78 = .ok (.getfield 34, 3) by decide +kernel) ?_
  refine x_iconst (pc := 81) (n := 0) (show decode mX3_copyFrom.2.1 81 = .ok (.iconst 0, 1) by decide +kernel) ?_
  refine x_aload_n (pc := 82) (show decode mX3_copyFrom.2.1 82 = .ok (.aload_n 0, 1) by decide +kernel) rfl rfl ?_
  refine x_getR (pc := 83) f3_34 rfl rfl (show decode mX3_copyFrom.2.1 83 = .ok (.getfield 34, 3) by decide +kernel) ?_
  refine x_iconst (pc := 86) (n := 0) (show decode mX3_copyFrom.2.1 86 = .ok (.iconst 0, 1) by decide +kernel) ?_
  refine x_bipush (pc := 87) (n := 10) (show decode mX3_copyFrom.2.1 87 = .ok (.bipush 10, 2) by decide +kernel) rfl ?_
  refine x_copy (pc := 89) rfl rfl (tblG_m4 171 rfl rfl) ac_native ac_static ac_init (by decide) (Nat.le_of_ble_eq_true rfl) hd (show decode mX3_copyFrom.2.1 89 = .ok (.invokestatic 37, 3) by decide +kernel) ?_
  exact x_vret (pc := 92) rfl (show decode mX3_copyFrom.2.1 92 = .ok (.return_, 1) by decide +kernel) ⟨rfl, hR⟩
set_option maxRecDepth 4000 in
theorem sg_X3_copyFrom_1_11_0 {d : Nat} {h : xH} {Q : xH → Prop} (hd : 1 ≤ d)
    (hR : Q (xcp (xu (xcp (xcp (xcp (xu (xu (xu h 1 0 (h 11 0)) 1 1 (h 11 1)) 1 2 (h 11 2)) 12 2 30) 13 3 30) 14 4 30) 1 6 (h 11 6)) 15 5 10)) :
    gV wdC d mX3_copyFrom 0 [some (.inr (.inr 1)), some (.inr (.inr 11))] h Q := by
  unfold gV
  refine x_aload_n (pc := 0) (show decode mX3_copyFrom.2.1 0 = .ok (.aload_n 0, 1) by decide +kernel) rfl rfl ?_
  refine x_aload_n (pc := 1) (show decode mX3_copyFrom.2.1 1 = .ok (.aload_n 1, 1) by decide +kernel) rfl rfl ?_
  refine x_getI (pc := 2) (ki := 0) f3_9 rfl rfl (by decide) rfl (show decode mX3_copyFrom.2.1 2 = .ok (.getfield 9, 3) by decide +kernel) ?_
  refine x_putI (pc := 5) (ki := 0) f3_9 fp3_0 rfl rfl rfl (show decode mX3_copyFrom.2.1 5 = .ok (.putfield 9, 3) by decide +kernel) ?_
  refine x_aload_n (pc := 8) (show decode mX3_copyFrom.2.1 8 = .ok (.aload_n 0, 1) by decide +kernel) rfl rfl ?_
  refine x_aload_n (pc := 9) (show decode mX3_copyFrom.2.1 9 = .ok (.aload_n 1, 1) by decide +kernel) rfl rfl ?_
  refine x_getI (pc := 10) (ki := 1) f3_15 rfl rfl (by decide) rfl (show decode mX3_copyFrom.2.1 10 = .ok (.getfield 15, 3) by decide +kernel) ?_
  refine x_putI (pc := 13) (ki := 1) f3_15 fp3_1 rfl rfl rfl (show decode mX3_copyFrom.2.1 13 = .ok (.putfield 15, 3) by decide +kernel) ?_
  refine x_aload_n (pc := 16) (show decode mX3_copyFrom.2.1 16 = .ok (.aload_n 0, 1) by decide +kernel) rfl rfl ?_
  refine x_aload_n (pc := 17) (show decode mX3_copyFrom.2.1 17 = .ok (.aload_n 1, 1) by decide +kernel) rfl rfl ?_
  refine x_getI (pc := 18) (ki := 2) f3_18 rfl rfl (by decide) rfl (show decode mX3_copyFrom.2.1 18 = .ok (.getfield 18, 3) by decide +kernel) ?_
  refine x_putI (pc := 21) (ki := 2) f3_18 fp3_2 rfl rfl rfl (show decode mX3_copyFrom.2.1 21 = .ok (.putfield 18, 3) by decide +kernel) ?_
  refine x_aload_n (pc := 24) (show decode mX3_copyFrom.2.1 24 = .ok (.aload_n 1, 1) by decide +kernel) rfl rfl ?_
  refine x_getR (pc := 25) f3_21 rfl rfl (show decode mX3_copyFrom.2.1 25 = .ok (.getfield 21, 3) by decide +kernel) ?_
  refine x_iconst (pc := 28) (n := 0) (show decode mX3_copyFrom.2.1 28 = .ok (.iconst 0, 1) by decide +kernel) ?_
  refine x_aload_n (pc := 29) (show decode mX3_copyFrom.2.1 29 = .ok (.aload_n 0, 1) by decide +kernel) rfl rfl ?_
  refine x_getR (pc := 30) f3_21 rfl rfl (show decode mX3_copyFrom.2.1 30 = .ok (.getfield 21, 3) by decide +kernel) ?_
  refine x_iconst (pc := 33) (n := 0) (show decode mX3_copyFrom.2.1 33 = .ok (.iconst 0, 1) by decide +kernel) ?_
  refine x_bipush (pc := 34) (n := 30) (show decode mX3_copyFrom.2.1 34 = .ok (.bipush 30, 2) by decide +kernel) rfl ?_
  refine x_copy (pc := 36) rfl rfl (tblG_m4 171 rfl rfl) ac_native ac_static ac_init (by decide) (Nat.le_of_ble_eq_true rfl) hd (show decode mX3_copyFrom.2.1 36 = .ok (.invokestatic 37, 3) by decide +kernel) ?_
  refine x_aload_n (pc := 39) (show decode mX3_copyFrom.2.1 39 = .ok (.aload_n 1, 1) by decide +kernel) rfl rfl ?_
  refine x_getR (pc := 40) f3_25 rfl rfl (show decode mX3_copyFrom.2.1 40 = .ok (.getfield 25, 3) by decide +kernel) ?_
  refine x_iconst (pc := 43) (n := 0) (show decode mX3_copyFrom.2.1 43 = .ok (.iconst 0, 1) by decide +kernel) ?_
  refine x_aload_n (pc := 44) (show decode mX3_copyFrom.2.1 44 = .ok (.aload_n 0, 1) by decide +kernel) rfl rfl ?_
  refine x_getR (pc := 45) f3_25 rfl rfl (show decode mX3_copyFrom.2.1 45 = .ok (.getfield 25, 3) by decide +kernel) ?_
  refine x_iconst (pc := 48) (n := 0) (show decode mX3_copyFrom.2.1 48 = .ok (.iconst 0, 1) by decide +kernel) ?_
  refine x_bipush (pc := 49) (n := 30) (show decode mX3_copyFrom.2.1 49 = .ok (.bipush 30, 2) by decide +kernel) rfl ?_
  refine x_copy (pc := 51) rfl rfl (tblG_m4 171 rfl rfl) ac_native ac_static ac_init (by decide) (Nat.le_of_ble_eq_true rfl) hd (show decode mX3_copyFrom.2.1 51 = .ok (.invokestatic 37, 3) by decide +kernel) ?_
  refine x_aload_n (pc := 54) (show decode mX3_copyFrom.2.1 54 = .ok (.aload_n 1, 1) by decide +kernel) rfl rfl ?_
  refine x_getR (pc := 55) f3_28 rfl rfl (show decode mX3_copyFrom.2.1 55 = .ok (.getfield 28, 3) by decide +kernel) ?_
  refine x_iconst (pc := 58) (n := 0) (show decode mX3_copyFrom.2.1 58 = .ok (.iconst 0, 1) by decide +kernel) ?_
  refine x_aload_n (pc := 59) (show decode mX3_copyFrom.2.1 59 = .ok (.aload_n 0, 1) by decide +kernel) rfl rfl ?_
  refine x_getR (pc := 60) f3_28 rfl rfl (show decode mX3_copyFrom.2.1 60 = .ok (.getfield 28, 3) by decide +kernel) ?_
  refine x_iconst (pc := 63) (n := 0) (show decode mX3_copyFrom.2.1 63 = .ok (.iconst 0, 1) by decide +kernel) ?_
  refine x_bipush (pc := 64) (n := 30) (show decode mX3_copyFrom.2.1 64 = .ok (.bipush 30, 2) by decide +kernel) rfl ?_
  refine x_copy (pc := 66) rfl rfl (tblG_m4 171 rfl rfl) ac_native ac_static ac_init (by decide) (Nat.le_of_ble_eq_true rfl) hd (show decode mX3_copyFrom.2.1 66 = .ok (.invokestatic 37, 3) by decide +kernel) ?_
  refine x_aload_n (pc := 69) (show decode mX3_copyFrom.2.1 69 = .ok (.aload_n 0, 1) by decide +kernel) rfl rfl ?_
  refine x_aload_n (pc := 70) (show decode mX3_copyFrom.2.1 70 = .ok (.aload_n 1, 1) by decide +kernel) rfl rfl ?_
  refine x_getI (pc := 71) (ki := 6) f3_31 rfl rfl (by decide) rfl (show decode mX3_copyFrom.2.1 71 = .ok (.getfield 31, 3) by decide +kernel) ?_
  refine x_putI (pc := 74) (ki := 6) f3_31 fp3_6 rfl rfl rfl (show decode mX3_copyFrom.2.1 74 = .ok (.putfield 31, 3) by decide +kernel) ?_
  refine x_aload_n (pc := 77) (show decode mX3_copyFrom.2.1 77 = .ok (.aload_n 1, 1) by decide +kernel) rfl rfl ?_
  refine x_getR (pc := 78) f3_34 rfl rfl (show decode mX3_copyFrom.2.1 78 = .ok (.getfield 34, 3) by decide +kernel) ?_
  refine x_iconst (pc := 81) (n := 0) (show decode mX3_copyFrom.2.1 81 = .ok (.iconst 0, 1) by decide +kernel) ?_
  refine x_aload_n (pc := 82) (show decode mX3_copyFrom.2.1 82 = .ok (.aload_n 0, 1) by decide +kernel) rfl rfl ?_
  refine x_getR (pc := 83) f3_34 rfl rfl (show decode mX3_copyFrom.2.1 83 = .ok (.getfield 34, 3) by decide +kernel) ?_
  refine x_iconst (pc := 86) (n := 0) (show decode mX3_copyFrom.2.1 86 = .ok (.iconst 0, 1) by decide +kernel) ?_
  refine x_bipush (pc := 87) (n := 10) (show decode mX3_copyFrom.2.1 87 = .ok (.bipush 10, 2) by decide +kernel) rfl ?_
  refine x_copy (pc := 89) rfl rfl (tblG_m4 171 rfl rfl) ac_native ac_static ac_init (by decide) (Nat.le_of_ble_eq_true rfl) hd (show decode mX3_copyFrom.2.1 89 = .ok (.invokestatic 37, 3) by decide +kernel) ?_
  exact x_vret (pc := 92) rfl (show decode mX3_copyFrom.2.1 92 = .ok (.return_, 1) by decide +kernel) ⟨rfl, hR⟩
set_option maxRecDepth 4000 in
theorem sg_X3_isSlot_0 {d : Nat} {x1 : Int} {h : xH} {Q : Int → xH → Prop}
    (hR : (inI x1) ∧ (x1 < 0 → Q 0 h) ∧ (0 ≤ x1 → (inI x1 ∧ inI (h 1 0)) ∧ ((h 1 0) ≤ x1 → Q 0 h) ∧ (x1 < (h 1 0) → Q 1 h))) :
    gI wdC d mX3_isSlot 0 [some (.inr (.inr 1)), some (.inl x1)] h Q := by
  unfold gI
  refine x_iload_n (pc := 0) (show decode mX3_isSlot.2.1 0 = .ok (.iload_n 1, 1) by decide +kernel) rfl rfl ?_
  obtain ⟨hg, hR⟩ := hR
  refine x_if_lt (pc := 1) (tgt := 16) (show decode mX3_isSlot.2.1 1 = .ok (.ifCond .lt 15, 3) by decide +kernel) (by decide) hg (fun hc => ?_) (fun hc => ?_)
  · replace hR := hR.1 hc
    refine x_iconst (pc := 16) (n := 0) (show decode mX3_isSlot.2.1 16 = .ok (.iconst 0, 1) by decide +kernel) ?_
    exact x_zret (pc := 17) rfl (show decode mX3_isSlot.2.1 17 = .ok (.ireturn, 1) by decide +kernel) (by decide) ⟨_, rfl, hR⟩
  · replace hR := hR.2 hc
    refine x_iload_n (pc := 4) (show decode mX3_isSlot.2.1 4 = .ok (.iload_n 1, 1) by decide +kernel) rfl rfl ?_
    refine x_aload_n (pc := 5) (show decode mX3_isSlot.2.1 5 = .ok (.aload_n 0, 1) by decide +kernel) rfl rfl ?_
    refine x_getI (pc := 6) (ki := 0) f3_9 rfl rfl (by decide) rfl (show decode mX3_isSlot.2.1 6 = .ok (.getfield 9, 3) by decide +kernel) ?_
    obtain ⟨hg, hR⟩ := hR
    refine x_icmp_ge (pc := 9) (tgt := 16) (show decode mX3_isSlot.2.1 9 = .ok (.if_icmp .ge 7, 3) by decide +kernel) (by decide) ⟨hg.1, hg.2⟩ (fun hc => ?_) (fun hc => ?_)
    · replace hR := hR.1 hc
      refine x_iconst (pc := 16) (n := 0) (show decode mX3_isSlot.2.1 16 = .ok (.iconst 0, 1) by decide +kernel) ?_
      exact x_zret (pc := 17) rfl (show decode mX3_isSlot.2.1 17 = .ok (.ireturn, 1) by decide +kernel) (by decide) ⟨_, rfl, hR⟩
    · replace hR := hR.2 hc
      refine x_iconst (pc := 12) (n := 1) (show decode mX3_isSlot.2.1 12 = .ok (.iconst 1, 1) by decide +kernel) ?_
      refine x_goto (pc := 13) (tgt := 17) (show decode mX3_isSlot.2.1 13 = .ok (.goto 4, 3) by decide +kernel) (by decide) ?_
      exact x_zret (pc := 17) rfl (show decode mX3_isSlot.2.1 17 = .ok (.ireturn, 1) by decide +kernel) (by decide) ⟨_, rfl, hR⟩
set_option maxRecDepth 4000 in
theorem sg_X3_isPinSlot_0 {d : Nat} {x1 : Int} {h : xH} {Q : Int → xH → Prop}
    (hR : (inI x1) ∧ (x1 < 0 → Q 0 h) ∧ (0 ≤ x1 → (inI x1 ∧ inI ((h 1 0) - 1)) ∧ (((h 1 0) - 1) ≤ x1 → Q 0 h) ∧ (x1 < ((h 1 0) - 1) → Q 1 h))) :
    gI wdC d mX3_isPinSlot 0 [some (.inr (.inr 1)), some (.inl x1)] h Q := by
  unfold gI
  refine x_iload_n (pc := 0) (show decode mX3_isPinSlot.2.1 0 = .ok (.iload_n 1, 1) by decide +kernel) rfl rfl ?_
  obtain ⟨hg, hR⟩ := hR
  refine x_if_lt (pc := 1) (tgt := 18) (show decode mX3_isPinSlot.2.1 1 = .ok (.ifCond .lt 17, 3) by decide +kernel) (by decide) hg (fun hc => ?_) (fun hc => ?_)
  · replace hR := hR.1 hc
    refine x_iconst (pc := 18) (n := 0) (show decode mX3_isPinSlot.2.1 18 = .ok (.iconst 0, 1) by decide +kernel) ?_
    exact x_zret (pc := 19) rfl (show decode mX3_isPinSlot.2.1 19 = .ok (.ireturn, 1) by decide +kernel) (by decide) ⟨_, rfl, hR⟩
  · replace hR := hR.2 hc
    refine x_iload_n (pc := 4) (show decode mX3_isPinSlot.2.1 4 = .ok (.iload_n 1, 1) by decide +kernel) rfl rfl ?_
    refine x_aload_n (pc := 5) (show decode mX3_isPinSlot.2.1 5 = .ok (.aload_n 0, 1) by decide +kernel) rfl rfl ?_
    refine x_getI (pc := 6) (ki := 0) f3_9 rfl rfl (by decide) rfl (show decode mX3_isPinSlot.2.1 6 = .ok (.getfield 9, 3) by decide +kernel) ?_
    refine x_iconst (pc := 9) (n := 1) (show decode mX3_isPinSlot.2.1 9 = .ok (.iconst 1, 1) by decide +kernel) ?_
    refine x_isub (pc := 10) (show decode mX3_isPinSlot.2.1 10 = .ok (.isub, 1) by decide +kernel) ?_
    obtain ⟨hg, hR⟩ := hR
    refine x_icmp_ge (pc := 11) (tgt := 18) (show decode mX3_isPinSlot.2.1 11 = .ok (.if_icmp .ge 7, 3) by decide +kernel) (by decide) ⟨hg.1, hg.2⟩ (fun hc => ?_) (fun hc => ?_)
    · replace hR := hR.1 hc
      refine x_iconst (pc := 18) (n := 0) (show decode mX3_isPinSlot.2.1 18 = .ok (.iconst 0, 1) by decide +kernel) ?_
      exact x_zret (pc := 19) rfl (show decode mX3_isPinSlot.2.1 19 = .ok (.ireturn, 1) by decide +kernel) (by decide) ⟨_, rfl, hR⟩
    · replace hR := hR.2 hc
      refine x_iconst (pc := 14) (n := 1) (show decode mX3_isPinSlot.2.1 14 = .ok (.iconst 1, 1) by decide +kernel) ?_
      refine x_goto (pc := 15) (tgt := 19) (show decode mX3_isPinSlot.2.1 15 = .ok (.goto 4, 3) by decide +kernel) (by decide) ?_
      exact x_zret (pc := 19) rfl (show decode mX3_isPinSlot.2.1 19 = .ok (.ireturn, 1) by decide +kernel) (by decide) ⟨_, rfl, hR⟩
set_option maxRecDepth 4000 in
theorem sg_X3_isPin_0 {d : Nat} {x1 : Int} {h : xH} {Q : Int → xH → Prop}
    (hR : (inI x1) ∧ (x1 < 0 → Q 0 h) ∧ (0 ≤ x1 → (inI x1 ∧ inI (h 1 2)) ∧ ((h 1 2) ≤ x1 → Q 0 h) ∧ (x1 < (h 1 2) → Q 1 h))) :
    gI wdC d mX3_isPin 0 [some (.inr (.inr 1)), some (.inl x1)] h Q := by
  unfold gI
  refine x_iload_n (pc := 0) (show decode mX3_isPin.2.1 0 = .ok (.iload_n 1, 1) by decide +kernel) rfl rfl ?_
  obtain ⟨hg, hR⟩ := hR
  refine x_if_lt (pc := 1) (tgt := 16) (show decode mX3_isPin.2.1 1 = .ok (.ifCond .lt 15, 3) by decide +kernel) (by decide) hg (fun hc => ?_) (fun hc => ?_)
  · replace hR := hR.1 hc
    refine x_iconst (pc := 16) (n := 0) (show decode mX3_isPin.2.1 16 = .ok (.iconst 0, 1) by decide +kernel) ?_
    exact x_zret (pc := 17) rfl (show decode mX3_isPin.2.1 17 = .ok (.ireturn, 1) by decide +kernel) (by decide) ⟨_, rfl, hR⟩
  · replace hR := hR.2 hc
    refine x_iload_n (pc := 4) (show decode mX3_isPin.2.1 4 = .ok (.iload_n 1, 1) by decide +kernel) rfl rfl ?_
    refine x_aload_n (pc := 5) (show decode mX3_isPin.2.1 5 = .ok (.aload_n 0, 1) by decide +kernel) rfl rfl ?_
    refine x_getI (pc := 6) (ki := 2) f3_18 rfl rfl (by decide) rfl (show decode mX3_isPin.2.1 6 = .ok (.getfield 18, 3) by decide +kernel) ?_
    obtain ⟨hg, hR⟩ := hR
    refine x_icmp_ge (pc := 9) (tgt := 16) (show decode mX3_isPin.2.1 9 = .ok (.if_icmp .ge 7, 3) by decide +kernel) (by decide) ⟨hg.1, hg.2⟩ (fun hc => ?_) (fun hc => ?_)
    · replace hR := hR.1 hc
      refine x_iconst (pc := 16) (n := 0) (show decode mX3_isPin.2.1 16 = .ok (.iconst 0, 1) by decide +kernel) ?_
      exact x_zret (pc := 17) rfl (show decode mX3_isPin.2.1 17 = .ok (.ireturn, 1) by decide +kernel) (by decide) ⟨_, rfl, hR⟩
    · replace hR := hR.2 hc
      refine x_iconst (pc := 12) (n := 1) (show decode mX3_isPin.2.1 12 = .ok (.iconst 1, 1) by decide +kernel) ?_
      refine x_goto (pc := 13) (tgt := 17) (show decode mX3_isPin.2.1 13 = .ok (.goto 4, 3) by decide +kernel) (by decide) ?_
      exact x_zret (pc := 17) rfl (show decode mX3_isPin.2.1 17 = .ok (.ireturn, 1) by decide +kernel) (by decide) ⟨_, rfl, hR⟩
set_option maxRecDepth 4000 in
theorem sg_X3_addPin_0 {d : Nat} {x1 x2 x3 : Int} {h : xH} {Q : Int → xH → Prop}
    (hR : gI wdC d mX3_addPin 3 [some (.inr (.inr 1)), some (.inl x1), some (.inl x2), some (.inl x3), some (.inl 0)] h Q) :
    gI wdC d mX3_addPin 0 [some (.inr (.inr 1)), some (.inl x1), some (.inl x2), some (.inl x3), none] h Q := by
  unfold gI
  refine x_iconst (pc := 0) (n := 0) (show decode mX3_addPin.2.1 0 = .ok (.iconst 0, 1) by decide +kernel) ?_
  refine x_istore (pc := 1) (ls' := [some (.inr (.inr 1)), some (.inl x1), some (.inl x2), some (.inl x3), some (.inl 0)]) (show decode mX3_addPin.2.1 1 = .ok (.istore 4, 2) by decide +kernel) (by decide) rfl ?_
  exact hR
set_option maxRecDepth 4000 in
theorem sg_X3_addPin_3 {d : Nat} {x1 x2 x3 x4 : Int} {h : xH} {Q : Int → xH → Prop} (hd : 1 ≤ d)
    (hR : (inI x4 ∧ inI (h 1 2)) ∧ ((h 1 2) ≤ x4 → (inI (h 1 2)) ∧ ((h 1 2) < 30 → (0 ≤ (h 1 2) ∧ (h 1 2) < 30) ∧ (0 ≤ (h 1 2) ∧ (h 1 2) < 30) ∧ (0 ≤ (h 1 2) ∧ (h 1 2) < 30) ∧ Q (((h 1 2) + 1) - 1) (xu (xu (xu (xu h 2 (h 1 2) x1) 3 (h 1 2) x2) 4 (h 1 2) x3) 1 2 ((h 1 2) + 1))) ∧ (30 ≤ (h 1 2) → Q (-4) h)) ∧ (x4 < (h 1 2) → (0 ≤ x4 ∧ x4 < 30) ∧ (inI (h 2 x4) ∧ inI x1) ∧ (¬ (h 2 x4) = x1 → gI wdC d mX3_addPin 3 [some (.inr (.inr 1)), some (.inl x1), some (.inl x2), some (.inl x3), some (.inl (x4 + 1))] h Q) ∧ ((h 2 x4) = x1 → (0 ≤ x4 ∧ x4 < 30) ∧ (inI ((h 3 x4) - x2)) ∧ (inI (max ((h 3 x4) - x2) (-((h 3 x4) - x2)))) ∧ (1 < (max ((h 3 x4) - x2) (-((h 3 x4) - x2))) → gI wdC d mX3_addPin 3 [some (.inr (.inr 1)), some (.inl x1), some (.inl x2), some (.inl x3), some (.inl (x4 + 1))] h Q) ∧ ((max ((h 3 x4) - x2) (-((h 3 x4) - x2))) ≤ 1 → Q (-3) h)))) :
    gI wdC d mX3_addPin 3 [some (.inr (.inr 1)), some (.inl x1), some (.inl x2), some (.inl x3), some (.inl x4)] h Q := by
  unfold gI
  refine x_iload (pc := 3) (show decode mX3_addPin.2.1 3 = .ok (.iload 4, 2) by decide +kernel) rfl ?_
  refine x_aload_n (pc := 5) (show decode mX3_addPin.2.1 5 = .ok (.aload_n 0, 1) by decide +kernel) rfl rfl ?_
  refine x_getI (pc := 6) (ki := 2) f3_18 rfl rfl (by decide) rfl (show decode mX3_addPin.2.1 6 = .ok (.getfield 18, 3) by decide +kernel) ?_
  obtain ⟨hg, hR⟩ := hR
  refine x_icmp_ge (pc := 9) (tgt := 48) (show decode mX3_addPin.2.1 9 = .ok (.if_icmp .ge 39, 3) by decide +kernel) (by decide) ⟨hg.1, hg.2⟩ (fun hc => ?_) (fun hc => ?_)
  · replace hR := hR.1 hc
    refine x_aload_n (pc := 48) (show decode mX3_addPin.2.1 48 = .ok (.aload_n 0, 1) by decide +kernel) rfl rfl ?_
    refine x_getI (pc := 49) (ki := 2) f3_18 rfl rfl (by decide) rfl (show decode mX3_addPin.2.1 49 = .ok (.getfield 18, 3) by decide +kernel) ?_
    refine x_bipush (pc := 52) (n := 30) (show decode mX3_addPin.2.1 52 = .ok (.bipush 30, 2) by decide +kernel) rfl ?_
    obtain ⟨hg, hR⟩ := hR
    refine x_icmp_lt (pc := 54) (tgt := 60) (show decode mX3_addPin.2.1 54 = .ok (.if_icmp .lt 6, 3) by decide +kernel) (by decide) ⟨hg, (by unfold inI; decide)⟩ (fun hc => ?_) (fun hc => ?_)
    · replace hR := hR.1 hc
      refine x_aload_n (pc := 60) (show decode mX3_addPin.2.1 60 = .ok (.aload_n 0, 1) by decide +kernel) rfl rfl ?_
      refine x_getR (pc := 61) f3_21 rfl rfl (show decode mX3_addPin.2.1 61 = .ok (.getfield 21, 3) by decide +kernel) ?_
      refine x_aload_n (pc := 64) (show decode mX3_addPin.2.1 64 = .ok (.aload_n 0, 1) by decide +kernel) rfl rfl ?_
      refine x_getI (pc := 65) (ki := 2) f3_18 rfl rfl (by decide) rfl (show decode mX3_addPin.2.1 65 = .ok (.getfield 18, 3) by decide +kernel) ?_
      refine x_iload_n (pc := 68) (show decode mX3_addPin.2.1 68 = .ok (.iload_n 1, 1) by decide +kernel) rfl rfl ?_
      obtain ⟨hg, hR⟩ := hR
      refine x_iast (pc := 69) rfl (by decide) hg (show decode mX3_addPin.2.1 69 = .ok (.iastore, 1) by decide +kernel) ?_
      refine x_aload_n (pc := 70) (show decode mX3_addPin.2.1 70 = .ok (.aload_n 0, 1) by decide +kernel) rfl rfl ?_
      refine x_getR (pc := 71) f3_25 rfl rfl (show decode mX3_addPin.2.1 71 = .ok (.getfield 25, 3) by decide +kernel) ?_
      refine x_aload_n (pc := 74) (show decode mX3_addPin.2.1 74 = .ok (.aload_n 0, 1) by decide +kernel) rfl rfl ?_
      refine x_getI (pc := 75) (ki := 2) f3_18 rfl rfl (by decide) rfl (show decode mX3_addPin.2.1 75 = .ok (.getfield 18, 3) by decide +kernel) ?_
      refine x_iload_n (pc := 78) (show decode mX3_addPin.2.1 78 = .ok (.iload_n 2, 1) by decide +kernel) rfl rfl ?_
      obtain ⟨hg, hR⟩ := hR
      refine x_iast (pc := 79) rfl (by decide) hg (show decode mX3_addPin.2.1 79 = .ok (.iastore, 1) by decide +kernel) ?_
      refine x_aload_n (pc := 80) (show decode mX3_addPin.2.1 80 = .ok (.aload_n 0, 1) by decide +kernel) rfl rfl ?_
      refine x_getR (pc := 81) f3_28 rfl rfl (show decode mX3_addPin.2.1 81 = .ok (.getfield 28, 3) by decide +kernel) ?_
      refine x_aload_n (pc := 84) (show decode mX3_addPin.2.1 84 = .ok (.aload_n 0, 1) by decide +kernel) rfl rfl ?_
      refine x_getI (pc := 85) (ki := 2) f3_18 rfl rfl (by decide) rfl (show decode mX3_addPin.2.1 85 = .ok (.getfield 18, 3) by decide +kernel) ?_
      refine x_iload_n (pc := 88) (show decode mX3_addPin.2.1 88 = .ok (.iload_n 3, 1) by decide +kernel) rfl rfl ?_
      obtain ⟨hg, hR⟩ := hR
      refine x_iast (pc := 89) rfl (by decide) hg (show decode mX3_addPin.2.1 89 = .ok (.iastore, 1) by decide +kernel) ?_
      refine x_aload_n (pc := 90) (show decode mX3_addPin.2.1 90 = .ok (.aload_n 0, 1) by decide +kernel) rfl rfl ?_
      refine x_dup (pc := 91) (show decode mX3_addPin.2.1 91 = .ok (.dup, 1) by decide +kernel) rfl ?_
      refine x_getI (pc := 92) (ki := 2) f3_18 rfl rfl (by decide) rfl (show decode mX3_addPin.2.1 92 = .ok (.getfield 18, 3) by decide +kernel) ?_
      refine x_iconst (pc := 95) (n := 1) (show decode mX3_addPin.2.1 95 = .ok (.iconst 1, 1) by decide +kernel) ?_
      refine x_iadd (pc := 96) (show decode mX3_addPin.2.1 96 = .ok (.iadd, 1) by decide +kernel) ?_
      refine x_putI (pc := 97) (ki := 2) f3_18 fp3_2 rfl rfl rfl (show decode mX3_addPin.2.1 97 = .ok (.putfield 18, 3) by decide +kernel) ?_
      refine x_aload_n (pc := 100) (show decode mX3_addPin.2.1 100 = .ok (.aload_n 0, 1) by decide +kernel) rfl rfl ?_
      refine x_getI (pc := 101) (ki := 2) f3_18 rfl rfl (by decide) rfl (show decode mX3_addPin.2.1 101 = .ok (.getfield 18, 3) by decide +kernel) ?_
      refine x_iconst (pc := 104) (n := 1) (show decode mX3_addPin.2.1 104 = .ok (.iconst 1, 1) by decide +kernel) ?_
      refine x_isub (pc := 105) (show decode mX3_addPin.2.1 105 = .ok (.isub, 1) by decide +kernel) ?_
      exact x_iret (pc := 106) rfl (show decode mX3_addPin.2.1 106 = .ok (.ireturn, 1) by decide +kernel) ⟨_, rfl, hR⟩
    · replace hR := hR.2 hc
      refine x_bipush (pc := 57) (n := (-4)) (show decode mX3_addPin.2.1 57 = .ok (.bipush (-4), 2) by decide +kernel) rfl ?_
      exact x_iret (pc := 59) rfl (show decode mX3_addPin.2.1 59 = .ok (.ireturn, 1) by decide +kernel) ⟨_, rfl, hR⟩
  · replace hR := hR.2 hc
    refine x_aload_n (pc := 12) (show decode mX3_addPin.2.1 12 = .ok (.aload_n 0, 1) by decide +kernel) rfl rfl ?_
    refine x_getR (pc := 13) f3_21 rfl rfl (show decode mX3_addPin.2.1 13 = .ok (.getfield 21, 3) by decide +kernel) ?_
    refine x_iload (pc := 16) (show decode mX3_addPin.2.1 16 = .ok (.iload 4, 2) by decide +kernel) rfl ?_
    obtain ⟨hg, hR⟩ := hR
    refine x_iald (pc := 18) rfl (by decide) hg (show decode mX3_addPin.2.1 18 = .ok (.iaload, 1) by decide +kernel) ?_
    refine x_iload_n (pc := 19) (show decode mX3_addPin.2.1 19 = .ok (.iload_n 1, 1) by decide +kernel) rfl rfl ?_
    obtain ⟨hg, hR⟩ := hR
    refine x_icmp_ne (pc := 20) (tgt := 42) (show decode mX3_addPin.2.1 20 = .ok (.if_icmp .ne 22, 3) by decide +kernel) (by decide) ⟨hg.1, hg.2⟩ (fun hc => ?_) (fun hc => ?_)
    · replace hR := hR.1 hc
      refine x_iinc (pc := 42) (ls' := [some (.inr (.inr 1)), some (.inl x1), some (.inl x2), some (.inl x3), some (.inl (x4 + 1))]) (show decode mX3_addPin.2.1 42 = .ok (.iinc 4 1, 3) by decide +kernel) (by decide) rfl rfl ?_
      refine x_goto (pc := 45) (tgt := 3) (show decode mX3_addPin.2.1 45 = .ok (.goto (-42), 3) by decide +kernel) (by decide) ?_
      exact hR
    · replace hR := hR.2 hc
      refine x_aload_n (pc := 23) (show decode mX3_addPin.2.1 23 = .ok (.aload_n 0, 1) by decide +kernel) rfl rfl ?_
      refine x_getR (pc := 24) f3_25 rfl rfl (show decode mX3_addPin.2.1 24 = .ok (.getfield 25, 3) by decide +kernel) ?_
      refine x_iload (pc := 27) (show decode mX3_addPin.2.1 27 = .ok (.iload 4, 2) by decide +kernel) rfl ?_
      obtain ⟨hg, hR⟩ := hR
      refine x_iald (pc := 29) rfl (by decide) hg (show decode mX3_addPin.2.1 29 = .ok (.iaload, 1) by decide +kernel) ?_
      refine x_iload_n (pc := 30) (show decode mX3_addPin.2.1 30 = .ok (.iload_n 2, 1) by decide +kernel) rfl rfl ?_
      refine x_isub (pc := 31) (show decode mX3_addPin.2.1 31 = .ok (.isub, 1) by decide +kernel) ?_
      obtain ⟨hg, hR⟩ := hR
      refine x_mabs (pc := 32) (b := 0) (tblG_m2 97 rfl rfl) MA_st M_in MA_cd hg (Nat.le_of_ble_eq_true rfl) hd (show decode mX3_addPin.2.1 32 = .ok (.invokestatic 43, 3) by decide +kernel) ?_
      refine x_iconst (pc := 35) (n := 1) (show decode mX3_addPin.2.1 35 = .ok (.iconst 1, 1) by decide +kernel) ?_
      obtain ⟨hg, hR⟩ := hR
      refine x_icmp_gt (pc := 36) (tgt := 42) (show decode mX3_addPin.2.1 36 = .ok (.if_icmp .gt 6, 3) by decide +kernel) (by decide) ⟨hg, (by unfold inI; decide)⟩ (fun hc => ?_) (fun hc => ?_)
      · replace hR := hR.1 hc
        refine x_iinc (pc := 42) (ls' := [some (.inr (.inr 1)), some (.inl x1), some (.inl x2), some (.inl x3), some (.inl (x4 + 1))]) (show decode mX3_addPin.2.1 42 = .ok (.iinc 4 1, 3) by decide +kernel) (by decide) rfl rfl ?_
        refine x_goto (pc := 45) (tgt := 3) (show decode mX3_addPin.2.1 45 = .ok (.goto (-42), 3) by decide +kernel) (by decide) ?_
        exact hR
      · replace hR := hR.2 hc
        refine x_bipush (pc := 39) (n := (-3)) (show decode mX3_addPin.2.1 39 = .ok (.bipush (-3), 2) by decide +kernel) rfl ?_
        exact x_iret (pc := 41) rfl (show decode mX3_addPin.2.1 41 = .ok (.ireturn, 1) by decide +kernel) ⟨_, rfl, hR⟩
set_option maxRecDepth 4000 in
theorem sg_X3_fillAtFirst_0 {d : Nat} {x1 x2 : Int} {h : xH} {Q : Int → xH → Prop}
    (hR : (inI (h 1 1) ∧ 0 ≤ x1 ∧ x1 ≤ 31) ∧ (inI x2) ∧ (x2 = 0 → (0 ≤ x1 ∧ x1 ≤ 31) ∧ Q (xandI ((h 1 1) / 2 ^ (Int.toNat x1)) 1) (xu h 1 1 (xandI (h 1 1) (xxorI (1 * 2 ^ (Int.toNat x1)) (-1))))) ∧ (¬ x2 = 0 → (0 ≤ x1 ∧ x1 ≤ 31) ∧ Q (xandI ((h 1 1) / 2 ^ (Int.toNat x1)) 1) (xu h 1 1 (xorI (h 1 1) (1 * 2 ^ (Int.toNat x1)))))) :
    gI wdC d mX3_fillAtFirst 0 [some (.inr (.inr 1)), some (.inl x1), some (.inl x2), none] h Q := by
  unfold gI
  refine x_aload_n (pc := 0) (show decode mX3_fillAtFirst.2.1 0 = .ok (.aload_n 0, 1) by decide +kernel) rfl rfl ?_
  refine x_getI (pc := 1) (ki := 1) f3_15 rfl rfl (by decide) rfl (show decode mX3_fillAtFirst.2.1 1 = .ok (.getfield 15, 3) by decide +kernel) ?_
  refine x_iload_n (pc := 4) (show decode mX3_fillAtFirst.2.1 4 = .ok (.iload_n 1, 1) by decide +kernel) rfl rfl ?_
  obtain ⟨hg, hR⟩ := hR
  refine x_ishr (pc := 5) (show decode mX3_fillAtFirst.2.1 5 = .ok (.ishr, 1) by decide +kernel) hg ?_
  refine x_iconst (pc := 6) (n := 1) (show decode mX3_fillAtFirst.2.1 6 = .ok (.iconst 1, 1) by decide +kernel) ?_
  refine x_iand (pc := 7) (show decode mX3_fillAtFirst.2.1 7 = .ok (.iand, 1) by decide +kernel) ?_
  refine x_istore_n (pc := 8) (ls' := [some (.inr (.inr 1)), some (.inl x1), some (.inl x2), some (.inl (xandI ((h 1 1) / 2 ^ (Int.toNat x1)) 1))]) (show decode mX3_fillAtFirst.2.1 8 = .ok (.istore_n 3, 1) by decide +kernel) rfl (by decide) rfl ?_
  refine x_iload_n (pc := 9) (show decode mX3_fillAtFirst.2.1 9 = .ok (.iload_n 2, 1) by decide +kernel) rfl rfl ?_
  obtain ⟨hg, hR⟩ := hR
  refine x_if_eq (pc := 10) (tgt := 28) (show decode mX3_fillAtFirst.2.1 10 = .ok (.ifCond .eq 18, 3) by decide +kernel) (by decide) hg (fun hc => ?_) (fun hc => ?_)
  · replace hR := hR.1 hc
    refine x_aload_n (pc := 28) (show decode mX3_fillAtFirst.2.1 28 = .ok (.aload_n 0, 1) by decide +kernel) rfl rfl ?_
    refine x_dup (pc := 29) (show decode mX3_fillAtFirst.2.1 29 = .ok (.dup, 1) by decide +kernel) rfl ?_
    refine x_getI (pc := 30) (ki := 1) f3_15 rfl rfl (by decide) rfl (show decode mX3_fillAtFirst.2.1 30 = .ok (.getfield 15, 3) by decide +kernel) ?_
    refine x_iconst (pc := 33) (n := 1) (show decode mX3_fillAtFirst.2.1 33 = .ok (.iconst 1, 1) by decide +kernel) ?_
    refine x_iload_n (pc := 34) (show decode mX3_fillAtFirst.2.1 34 = .ok (.iload_n 1, 1) by decide +kernel) rfl rfl ?_
    obtain ⟨hg, hR⟩ := hR
    refine x_ishl (pc := 35) (show decode mX3_fillAtFirst.2.1 35 = .ok (.ishl, 1) by decide +kernel) hg ?_
    refine x_iconst (pc := 36) (n := (-1)) (show decode mX3_fillAtFirst.2.1 36 = .ok (.iconst (-1), 1) by decide +kernel) ?_
    refine x_ixor (pc := 37) (show decode mX3_fillAtFirst.2.1 37 = .ok (.ixor, 1) by decide +kernel) ?_
    refine x_iand (pc := 38) (show decode mX3_fillAtFirst.2.1 38 = .ok (.iand, 1) by decide +kernel) ?_
    refine x_putI (pc := 39) (ki := 1) f3_15 fp3_1 rfl rfl rfl (show decode mX3_fillAtFirst.2.1 39 = .ok (.putfield 15, 3) by decide +kernel) ?_
    refine x_iload_n (pc := 42) (show decode mX3_fillAtFirst.2.1 42 = .ok (.iload_n 3, 1) by decide +kernel) rfl rfl ?_
    exact x_iret (pc := 43) rfl (show decode mX3_fillAtFirst.2.1 43 = .ok (.ireturn, 1) by decide +kernel) ⟨_, rfl, hR⟩
  · replace hR := hR.2 hc
    refine x_aload_n (pc := 13) (show decode mX3_fillAtFirst.2.1 13 = .ok (.aload_n 0, 1) by decide +kernel) rfl rfl ?_
    refine x_dup (pc := 14) (show decode mX3_fillAtFirst.2.1 14 = .ok (.dup, 1) by decide +kernel) rfl ?_
    refine x_getI (pc := 15) (ki := 1) f3_15 rfl rfl (by decide) rfl (show decode mX3_fillAtFirst.2.1 15 = .ok (.getfield 15, 3) by decide +kernel) ?_
    refine x_iconst (pc := 18) (n := 1) (show decode mX3_fillAtFirst.2.1 18 = .ok (.iconst 1, 1) by decide +kernel) ?_
    refine x_iload_n (pc := 19) (show decode mX3_fillAtFirst.2.1 19 = .ok (.iload_n 1, 1) by decide +kernel) rfl rfl ?_
    obtain ⟨hg, hR⟩ := hR
    refine x_ishl (pc := 20) (show decode mX3_fillAtFirst.2.1 20 = .ok (.ishl, 1) by decide +kernel) hg ?_
    refine x_ior (pc := 21) (show decode mX3_fillAtFirst.2.1 21 = .ok (.ior, 1) by decide +kernel) ?_
    refine x_putI (pc := 22) (ki := 1) f3_15 fp3_1 rfl rfl rfl (show decode mX3_fillAtFirst.2.1 22 = .ok (.putfield 15, 3) by decide +kernel) ?_
    refine x_goto (pc := 25) (tgt := 42) (show decode mX3_fillAtFirst.2.1 25 = .ok (.goto 17, 3) by decide +kernel) (by decide) ?_
    refine x_iload_n (pc := 42) (show decode mX3_fillAtFirst.2.1 42 = .ok (.iload_n 3, 1) by decide +kernel) rfl rfl ?_
    exact x_iret (pc := 43) rfl (show decode mX3_fillAtFirst.2.1 43 = .ok (.ireturn, 1) by decide +kernel) ⟨_, rfl, hR⟩
set_option maxRecDepth 4000 in
theorem sg_X3_turnNumber_0 {d : Nat} {x0 x1 : Int} {h : xH} {Q : Int → xH → Prop}
    (hR : Q (xorI (x1 * 2 ^ (Int.toNat 4)) x0) h) :
    gI wdC d mX3_turnNumber 0 [some (.inl x0), some (.inl x1)] h Q := by
  unfold gI
  refine x_iload_n (pc := 0) (show decode mX3_turnNumber.2.1 0 = .ok (.iload_n 1, 1) by decide +kernel) rfl rfl ?_
  refine x_iconst (pc := 1) (n := 4) (show decode mX3_turnNumber.2.1 1 = .ok (.iconst 4, 1) by decide +kernel) ?_
  refine x_ishl (pc := 2) (show decode mX3_turnNumber.2.1 2 = .ok (.ishl, 1) by decide +kernel) (by decide) ?_
  refine x_iload_n (pc := 3) (show decode mX3_turnNumber.2.1 3 = .ok (.iload_n 0, 1) by decide +kernel) rfl rfl ?_
  refine x_ior (pc := 4) (show decode mX3_turnNumber.2.1 4 = .ok (.ior, 1) by decide +kernel) ?_
  exact x_iret (pc := 5) rfl (show decode mX3_turnNumber.2.1 5 = .ok (.ireturn, 1) by decide +kernel) ⟨_, rfl, hR⟩
set_option maxRecDepth 4000 in
theorem sg_X3_slotOfTurn_0 {d : Nat} {x0 : Int} {h : xH} {Q : Int → xH → Prop}
    (hR : Q (xandI x0 15) h) :
    gI wdC d mX3_slotOfTurn 0 [some (.inl x0)] h Q := by
  unfold gI
  refine x_iload_n (pc := 0) (show decode mX3_slotOfTurn.2.1 0 = .ok (.iload_n 0, 1) by decide +kernel) rfl rfl ?_
  refine x_bipush (pc := 1) (n := 15) (show decode mX3_slotOfTurn.2.1 1 = .ok (.bipush 15, 2) by decide +kernel) rfl ?_
  refine x_iand (pc := 3) (show decode mX3_slotOfTurn.2.1 3 = .ok (.iand, 1) by decide +kernel) ?_
  exact x_iret (pc := 4) rfl (show decode mX3_slotOfTurn.2.1 4 = .ok (.ireturn, 1) by decide +kernel) ⟨_, rfl, hR⟩
set_option maxRecDepth 4000 in
theorem sg_X3_rowOfTurn_0 {d : Nat} {x0 : Int} {h : xH} {Q : Int → xH → Prop}
    (hR : inI x0 ∧ Q (x0 / 2 ^ (Int.toNat 4)) h) :
    gI wdC d mX3_rowOfTurn 0 [some (.inl x0)] h Q := by
  unfold gI
  refine x_iload_n (pc := 0) (show decode mX3_rowOfTurn.2.1 0 = .ok (.iload_n 0, 1) by decide +kernel) rfl rfl ?_
  refine x_iconst (pc := 1) (n := 4) (show decode mX3_rowOfTurn.2.1 1 = .ok (.iconst 4, 1) by decide +kernel) ?_
  obtain ⟨hg, hR⟩ := hR
  refine x_ishr (pc := 2) (show decode mX3_rowOfTurn.2.1 2 = .ok (.ishr, 1) by decide +kernel) ⟨hg, by decide⟩ ?_
  exact x_iret (pc := 3) rfl (show decode mX3_rowOfTurn.2.1 3 = .ok (.ireturn, 1) by decide +kernel) ⟨_, rfl, hR⟩
set_option maxRecDepth 4000 in
theorem sg_X3_turnAt_0 {d : Nat} {x1 x2 : Int} {h : xH} {Q : Int → xH → Prop} (hd : 1 ≤ d)
    (hR : cI wdC (d - 1) mX3_turnNumber [.inl x1, .inl x2] h (fun r2 h1 => cI wdC (d - 1) mX3_placeOfTurn [.inr (.inr 1), .inl r2] h1 (fun r4 h3 => (inI r4) ∧ (r4 < 0 → (inI (h3 1 6)) ∧ ((h3 1 6) < 10 → (0 ≤ (h3 1 6) ∧ (h3 1 6) < 10) ∧ cV wdC (d - 1) mX3_sortTurns [.inr (.inr 1)] (xu (xu h3 5 (h3 1 6) r2) 1 6 ((h3 1 6) + 1)) (fun h5 => Q (h5 1 6) h5)) ∧ (10 ≤ (h3 1 6) → Q (-4) h3)) ∧ (0 ≤ r4 → cV wdC (d - 1) mX3_removeTurn [.inr (.inr 1), .inl r4] h3 (fun h6 => Q (h6 1 6) h6))))) :
    gI wdC d mX3_turnAt 0 [some (.inr (.inr 1)), some (.inl x1), some (.inl x2), none, none] h Q := by
  unfold gI
  refine x_iload_n (pc := 0) (show decode mX3_turnAt.2.1 0 = .ok (.iload_n 1, 1) by decide +kernel) rfl rfl ?_
  refine x_iload_n (pc := 1) (show decode mX3_turnAt.2.1 1 = .ok (.iload_n 2, 1) by decide +kernel) rfl rfl ?_
  refine x_callS (pc := 2) (As := [.inl x1, .inl x2]) (rest := []) (lk3_49 rfl) sm_X3_turnNumber (Nat.le_of_ble_eq_true rfl) (Nat.le_of_ble_eq_true rfl) (show decode mX3_turnAt.2.1 2 = .ok (.invokestatic 49, 3) by decide +kernel) hd hR (fun r9 h1 hq => ?_)
  obtain ⟨r2, rfl, hR⟩ := hq
  show xG _ _ _ 5 _ [.inl r2] _ _
  refine x_istore_n (pc := 5) (ls' := [some (.inr (.inr 1)), some (.inl x1), some (.inl x2), some (.inl r2), none]) (show decode mX3_turnAt.2.1 5 = .ok (.istore_n 3, 1) by decide +kernel) rfl (by decide) rfl ?_
  refine x_aload_n (pc := 6) (show decode mX3_turnAt.2.1 6 = .ok (.aload_n 0, 1) by decide +kernel) rfl rfl ?_
  refine x_iload_n (pc := 7) (show decode mX3_turnAt.2.1 7 = .ok (.iload_n 3, 1) by decide +kernel) rfl rfl ?_
  refine x_callV (pc := 8) (As := [.inl r2]) (rest := []) (lk3_53 rfl) im_X3_placeOfTurn sl_X3_placeOfTurn rfl rfl rfl (Nat.le_of_ble_eq_true rfl) (Nat.le_of_ble_eq_true rfl) (show decode mX3_turnAt.2.1 8 = .ok (.invokevirtual 53, 3) by decide +kernel) hd hR (fun r9 h3 hq => ?_)
  obtain ⟨r4, rfl, hR⟩ := hq
  show xG _ _ _ 11 _ [.inl r4] _ _
  refine x_istore (pc := 11) (ls' := [some (.inr (.inr 1)), some (.inl x1), some (.inl x2), some (.inl r2), some (.inl r4)]) (show decode mX3_turnAt.2.1 11 = .ok (.istore 4, 2) by decide +kernel) (by decide) rfl ?_
  refine x_iload (pc := 13) (show decode mX3_turnAt.2.1 13 = .ok (.iload 4, 2) by decide +kernel) rfl ?_
  obtain ⟨hg, hR⟩ := hR
  refine x_if_lt (pc := 15) (tgt := 27) (show decode mX3_turnAt.2.1 15 = .ok (.ifCond .lt 12, 3) by decide +kernel) (by decide) hg (fun hc => ?_) (fun hc => ?_)
  · replace hR := hR.1 hc
    refine x_aload_n (pc := 27) (show decode mX3_turnAt.2.1 27 = .ok (.aload_n 0, 1) by decide +kernel) rfl rfl ?_
    refine x_getI (pc := 28) (ki := 6) f3_31 rfl rfl (by decide) rfl (show decode mX3_turnAt.2.1 28 = .ok (.getfield 31, 3) by decide +kernel) ?_
    refine x_bipush (pc := 31) (n := 10) (show decode mX3_turnAt.2.1 31 = .ok (.bipush 10, 2) by decide +kernel) rfl ?_
    obtain ⟨hg, hR⟩ := hR
    refine x_icmp_lt (pc := 33) (tgt := 39) (show decode mX3_turnAt.2.1 33 = .ok (.if_icmp .lt 6, 3) by decide +kernel) (by decide) ⟨hg, (by unfold inI; decide)⟩ (fun hc => ?_) (fun hc => ?_)
    · replace hR := hR.1 hc
      refine x_aload_n (pc := 39) (show decode mX3_turnAt.2.1 39 = .ok (.aload_n 0, 1) by decide +kernel) rfl rfl ?_
      refine x_getR (pc := 40) f3_34 rfl rfl (show decode mX3_turnAt.2.1 40 = .ok (.getfield 34, 3) by decide +kernel) ?_
      refine x_aload_n (pc := 43) (show decode mX3_turnAt.2.1 43 = .ok (.aload_n 0, 1) by decide +kernel) rfl rfl ?_
      refine x_getI (pc := 44) (ki := 6) f3_31 rfl rfl (by decide) rfl (show decode mX3_turnAt.2.1 44 = .ok (.getfield 31, 3) by decide +kernel) ?_
      refine x_iload_n (pc := 47) (show decode mX3_turnAt.2.1 47 = .ok (.iload_n 3, 1) by decide +kernel) rfl rfl ?_
      obtain ⟨hg, hR⟩ := hR
      refine x_iast (pc := 48) rfl (by decide) hg (show decode mX3_turnAt.2.1 48 = .ok (.iastore, 1) by decide +kernel) ?_
      refine x_aload_n (pc := 49) (show decode mX3_turnAt.2.1 49 = .ok (.aload_n 0, 1) by decide +kernel) rfl rfl ?_
      refine x_dup (pc := 50) (show decode mX3_turnAt.2.1 50 = .ok (.dup, 1) by decide +kernel) rfl ?_
      refine x_getI (pc := 51) (ki := 6) f3_31 rfl rfl (by decide) rfl (show decode mX3_turnAt.2.1 51 = .ok (.getfield 31, 3) by decide +kernel) ?_
      refine x_iconst (pc := 54) (n := 1) (show decode mX3_turnAt.2.1 54 = .ok (.iconst 1, 1) by decide +kernel) ?_
      refine x_iadd (pc := 55) (show decode mX3_turnAt.2.1 55 = .ok (.iadd, 1) by decide +kernel) ?_
      refine x_putI (pc := 56) (ki := 6) f3_31 fp3_6 rfl rfl rfl (show decode mX3_turnAt.2.1 56 = .ok (.putfield 31, 3) by decide +kernel) ?_
      refine x_aload_n (pc := 59) (show decode mX3_turnAt.2.1 59 = .ok (.aload_n 0, 1) by decide +kernel) rfl rfl ?_
      refine x_callV (pc := 60) (As := []) (rest := []) (lk3_60 rfl) im_X3_sortTurns sl_X3_sortTurns rfl rfl rfl (Nat.le_of_ble_eq_true rfl) (Nat.le_of_ble_eq_true rfl) (show decode mX3_turnAt.2.1 60 = .ok (.invokevirtual 60, 3) by decide +kernel) hd hR (fun r9 h5 hq => ?_)
      obtain ⟨rfl, hR⟩ := hq
      show xG _ _ _ 63 _ [] _ _
      refine x_aload_n (pc := 63) (show decode mX3_turnAt.2.1 63 = .ok (.aload_n 0, 1) by decide +kernel) rfl rfl ?_
      refine x_getI (pc := 64) (ki := 6) f3_31 rfl rfl (by decide) rfl (show decode mX3_turnAt.2.1 64 = .ok (.getfield 31, 3) by decide +kernel) ?_
      exact x_iret (pc := 67) rfl (show decode mX3_turnAt.2.1 67 = .ok (.ireturn, 1) by decide +kernel) ⟨_, rfl, hR⟩
    · replace hR := hR.2 hc
      refine x_bipush (pc := 36) (n := (-4)) (show decode mX3_turnAt.2.1 36 = .ok (.bipush (-4), 2) by decide +kernel) rfl ?_
      exact x_iret (pc := 38) rfl (show decode mX3_turnAt.2.1 38 = .ok (.ireturn, 1) by decide +kernel) ⟨_, rfl, hR⟩
  · replace hR := hR.2 hc
    refine x_aload_n (pc := 18) (show decode mX3_turnAt.2.1 18 = .ok (.aload_n 0, 1) by decide +kernel) rfl rfl ?_
    refine x_iload (pc := 19) (show decode mX3_turnAt.2.1 19 = .ok (.iload 4, 2) by decide +kernel) rfl ?_
    refine x_callV (pc := 21) (As := [.inl r4]) (rest := []) (lk3_56 rfl) im_X3_removeTurn sl_X3_removeTurn rfl rfl rfl (Nat.le_of_ble_eq_true rfl) (Nat.le_of_ble_eq_true rfl) (show decode mX3_turnAt.2.1 21 = .ok (.invokevirtual 56, 3) by decide +kernel) hd hR (fun r9 h6 hq => ?_)
    obtain ⟨rfl, hR⟩ := hq
    show xG _ _ _ 24 _ [] _ _
    refine x_goto (pc := 24) (tgt := 63) (show decode mX3_turnAt.2.1 24 = .ok (.goto 39, 3) by decide +kernel) (by decide) ?_
    refine x_aload_n (pc := 63) (show decode mX3_turnAt.2.1 63 = .ok (.aload_n 0, 1) by decide +kernel) rfl rfl ?_
    refine x_getI (pc := 64) (ki := 6) f3_31 rfl rfl (by decide) rfl (show decode mX3_turnAt.2.1 64 = .ok (.getfield 31, 3) by decide +kernel) ?_
    exact x_iret (pc := 67) rfl (show decode mX3_turnAt.2.1 67 = .ok (.ireturn, 1) by decide +kernel) ⟨_, rfl, hR⟩
set_option maxRecDepth 4000 in
theorem sg_X3_placeOfTurn_0 {d : Nat} {x1 : Int} {h : xH} {Q : Int → xH → Prop}
    (hR : gI wdC d mX3_placeOfTurn 2 [some (.inr (.inr 1)), some (.inl x1), some (.inl 0)] h Q) :
    gI wdC d mX3_placeOfTurn 0 [some (.inr (.inr 1)), some (.inl x1), none] h Q := by
  unfold gI
  refine x_iconst (pc := 0) (n := 0) (show decode mX3_placeOfTurn.2.1 0 = .ok (.iconst 0, 1) by decide +kernel) ?_
  refine x_istore_n (pc := 1) (ls' := [some (.inr (.inr 1)), some (.inl x1), some (.inl 0)]) (show decode mX3_placeOfTurn.2.1 1 = .ok (.istore_n 2, 1) by decide +kernel) rfl (by decide) rfl ?_
  exact hR
set_option maxRecDepth 4000 in
theorem sg_X3_placeOfTurn_2 {d : Nat} {x1 x2 : Int} {h : xH} {Q : Int → xH → Prop}
    (hR : (inI x2 ∧ inI (h 1 6)) ∧ ((h 1 6) ≤ x2 → Q (-1) h) ∧ (x2 < (h 1 6) → (0 ≤ x2 ∧ x2 < 10) ∧ (inI (h 5 x2) ∧ inI x1) ∧ (¬ (h 5 x2) = x1 → gI wdC d mX3_placeOfTurn 2 [some (.inr (.inr 1)), some (.inl x1), some (.inl (x2 + 1))] h Q) ∧ ((h 5 x2) = x1 → Q x2 h))) :
    gI wdC d mX3_placeOfTurn 2 [some (.inr (.inr 1)), some (.inl x1), some (.inl x2)] h Q := by
  unfold gI
  refine x_iload_n (pc := 2) (show decode mX3_placeOfTurn.2.1 2 = .ok (.iload_n 2, 1) by decide +kernel) rfl rfl ?_
  refine x_aload_n (pc := 3) (show decode mX3_placeOfTurn.2.1 3 = .ok (.aload_n 0, 1) by decide +kernel) rfl rfl ?_
  refine x_getI (pc := 4) (ki := 6) f3_31 rfl rfl (by decide) rfl (show decode mX3_placeOfTurn.2.1 4 = .ok (.getfield 31, 3) by decide +kernel) ?_
  obtain ⟨hg, hR⟩ := hR
  refine x_icmp_ge (pc := 7) (tgt := 28) (show decode mX3_placeOfTurn.2.1 7 = .ok (.if_icmp .ge 21, 3) by decide +kernel) (by decide) ⟨hg.1, hg.2⟩ (fun hc => ?_) (fun hc => ?_)
  · replace hR := hR.1 hc
    refine x_iconst (pc := 28) (n := (-1)) (show decode mX3_placeOfTurn.2.1 28 = .ok (.iconst (-1), 1) by decide +kernel) ?_
    exact x_iret (pc := 29) rfl (show decode mX3_placeOfTurn.2.1 29 = .ok (.ireturn, 1) by decide +kernel) ⟨_, rfl, hR⟩
  · replace hR := hR.2 hc
    refine x_aload_n (pc := 10) (show decode mX3_placeOfTurn.2.1 10 = .ok (.aload_n 0, 1) by decide +kernel) rfl rfl ?_
    refine x_getR (pc := 11) f3_34 rfl rfl (show decode mX3_placeOfTurn.2.1 11 = .ok (.getfield 34, 3) by decide +kernel) ?_
    refine x_iload_n (pc := 14) (show decode mX3_placeOfTurn.2.1 14 = .ok (.iload_n 2, 1) by decide +kernel) rfl rfl ?_
    obtain ⟨hg, hR⟩ := hR
    refine x_iald (pc := 15) rfl (by decide) hg (show decode mX3_placeOfTurn.2.1 15 = .ok (.iaload, 1) by decide +kernel) ?_
    refine x_iload_n (pc := 16) (show decode mX3_placeOfTurn.2.1 16 = .ok (.iload_n 1, 1) by decide +kernel) rfl rfl ?_
    obtain ⟨hg, hR⟩ := hR
    refine x_icmp_ne (pc := 17) (tgt := 22) (show decode mX3_placeOfTurn.2.1 17 = .ok (.if_icmp .ne 5, 3) by decide +kernel) (by decide) ⟨hg.1, hg.2⟩ (fun hc => ?_) (fun hc => ?_)
    · replace hR := hR.1 hc
      refine x_iinc (pc := 22) (ls' := [some (.inr (.inr 1)), some (.inl x1), some (.inl (x2 + 1))]) (show decode mX3_placeOfTurn.2.1 22 = .ok (.iinc 2 1, 3) by decide +kernel) (by decide) rfl rfl ?_
      refine x_goto (pc := 25) (tgt := 2) (show decode mX3_placeOfTurn.2.1 25 = .ok (.goto (-23), 3) by decide +kernel) (by decide) ?_
      exact hR
    · replace hR := hR.2 hc
      refine x_iload_n (pc := 20) (show decode mX3_placeOfTurn.2.1 20 = .ok (.iload_n 2, 1) by decide +kernel) rfl rfl ?_
      exact x_iret (pc := 21) rfl (show decode mX3_placeOfTurn.2.1 21 = .ok (.ireturn, 1) by decide +kernel) ⟨_, rfl, hR⟩
set_option maxRecDepth 4000 in
theorem sg_X3_removeTurn_0 {d : Nat} {x1 : Int} {h : xH} {Q : xH → Prop}
    (hR : gV wdC d mX3_removeTurn 2 [some (.inr (.inr 1)), none, some (.inl x1)] h Q) :
    gV wdC d mX3_removeTurn 0 [some (.inr (.inr 1)), some (.inl x1), none] h Q := by
  unfold gV
  refine x_iload_n (pc := 0) (show decode mX3_removeTurn.2.1 0 = .ok (.iload_n 1, 1) by decide +kernel) rfl rfl ?_
  refine x_istore_n (pc := 1) (ls' := [some (.inr (.inr 1)), some (.inl x1), some (.inl x1)]) (show decode mX3_removeTurn.2.1 1 = .ok (.istore_n 2, 1) by decide +kernel) rfl (by decide) rfl ?_
  exact x_weak (xle_get (by repeat' constructor)) hR
set_option maxRecDepth 4000 in
theorem sg_X3_removeTurn_2 {d : Nat} {x2 : Int} {h : xH} {Q : xH → Prop}
    (hR : (inI x2 ∧ inI ((h 1 6) - 1)) ∧ (((h 1 6) - 1) ≤ x2 → Q (xu h 1 6 ((h 1 6) - 1))) ∧ (x2 < ((h 1 6) - 1) → (0 ≤ (x2 + 1) ∧ (x2 + 1) < 10) ∧ (0 ≤ x2 ∧ x2 < 10) ∧ gV wdC d mX3_removeTurn 2 [some (.inr (.inr 1)), none, some (.inl (x2 + 1))] (xu h 5 x2 (h 5 (x2 + 1))) Q)) :
    gV wdC d mX3_removeTurn 2 [some (.inr (.inr 1)), none, some (.inl x2)] h Q := by
  unfold gV
  refine x_iload_n (pc := 2) (show decode mX3_removeTurn.2.1 2 = .ok (.iload_n 2, 1) by decide +kernel) rfl rfl ?_
  refine x_aload_n (pc := 3) (show decode mX3_removeTurn.2.1 3 = .ok (.aload_n 0, 1) by decide +kernel) rfl rfl ?_
  refine x_getI (pc := 4) (ki := 6) f3_31 rfl rfl (by decide) rfl (show decode mX3_removeTurn.2.1 4 = .ok (.getfield 31, 3) by decide +kernel) ?_
  refine x_iconst (pc := 7) (n := 1) (show decode mX3_removeTurn.2.1 7 = .ok (.iconst 1, 1) by decide +kernel) ?_
  refine x_isub (pc := 8) (show decode mX3_removeTurn.2.1 8 = .ok (.isub, 1) by decide +kernel) ?_
  obtain ⟨hg, hR⟩ := hR
  refine x_icmp_ge (pc := 9) (tgt := 32) (show decode mX3_removeTurn.2.1 9 = .ok (.if_icmp .ge 23, 3) by decide +kernel) (by decide) ⟨hg.1, hg.2⟩ (fun hc => ?_) (fun hc => ?_)
  · replace hR := hR.1 hc
    refine x_aload_n (pc := 32) (show decode mX3_removeTurn.2.1 32 = .ok (.aload_n 0, 1) by decide +kernel) rfl rfl ?_
    refine x_dup (pc := 33) (show decode mX3_removeTurn.2.1 33 = .ok (.dup, 1) by decide +kernel) rfl ?_
    refine x_getI (pc := 34) (ki := 6) f3_31 rfl rfl (by decide) rfl (show decode mX3_removeTurn.2.1 34 = .ok (.getfield 31, 3) by decide +kernel) ?_
    refine x_iconst (pc := 37) (n := 1) (show decode mX3_removeTurn.2.1 37 = .ok (.iconst 1, 1) by decide +kernel) ?_
    refine x_isub (pc := 38) (show decode mX3_removeTurn.2.1 38 = .ok (.isub, 1) by decide +kernel) ?_
    refine x_putI (pc := 39) (ki := 6) f3_31 fp3_6 rfl rfl rfl (show decode mX3_removeTurn.2.1 39 = .ok (.putfield 31, 3) by decide +kernel) ?_
    exact x_vret (pc := 42) rfl (show decode mX3_removeTurn.2.1 42 = .ok (.return_, 1) by decide +kernel) ⟨rfl, hR⟩
  · replace hR := hR.2 hc
    refine x_aload_n (pc := 12) (show decode mX3_removeTurn.2.1 12 = .ok (.aload_n 0, 1) by decide +kernel) rfl rfl ?_
    refine x_getR (pc := 13) f3_34 rfl rfl (show decode mX3_removeTurn.2.1 13 = .ok (.getfield 34, 3) by decide +kernel) ?_
    refine x_iload_n (pc := 16) (show decode mX3_removeTurn.2.1 16 = .ok (.iload_n 2, 1) by decide +kernel) rfl rfl ?_
    refine x_aload_n (pc := 17) (show decode mX3_removeTurn.2.1 17 = .ok (.aload_n 0, 1) by decide +kernel) rfl rfl ?_
    refine x_getR (pc := 18) f3_34 rfl rfl (show decode mX3_removeTurn.2.1 18 = .ok (.getfield 34, 3) by decide +kernel) ?_
    refine x_iload_n (pc := 21) (show decode mX3_removeTurn.2.1 21 = .ok (.iload_n 2, 1) by decide +kernel) rfl rfl ?_
    refine x_iconst (pc := 22) (n := 1) (show decode mX3_removeTurn.2.1 22 = .ok (.iconst 1, 1) by decide +kernel) ?_
    refine x_iadd (pc := 23) (show decode mX3_removeTurn.2.1 23 = .ok (.iadd, 1) by decide +kernel) ?_
    obtain ⟨hg, hR⟩ := hR
    refine x_iald (pc := 24) rfl (by decide) hg (show decode mX3_removeTurn.2.1 24 = .ok (.iaload, 1) by decide +kernel) ?_
    obtain ⟨hg, hR⟩ := hR
    refine x_iast (pc := 25) rfl (by decide) hg (show decode mX3_removeTurn.2.1 25 = .ok (.iastore, 1) by decide +kernel) ?_
    refine x_iinc (pc := 26) (ls' := [some (.inr (.inr 1)), none, some (.inl (x2 + 1))]) (show decode mX3_removeTurn.2.1 26 = .ok (.iinc 2 1, 3) by decide +kernel) (by decide) rfl rfl ?_
    refine x_goto (pc := 29) (tgt := 2) (show decode mX3_removeTurn.2.1 29 = .ok (.goto (-27), 3) by decide +kernel) (by decide) ?_
    exact hR
set_option maxRecDepth 4000 in
theorem sg_X3_sortTurns_0 {d : Nat} {h : xH} {Q : xH → Prop}
    (hR : gV wdC d mX3_sortTurns 2 [some (.inr (.inr 1)), some (.inl 1), none, none] h Q) :
    gV wdC d mX3_sortTurns 0 [some (.inr (.inr 1)), none, none, none] h Q := by
  unfold gV
  refine x_iconst (pc := 0) (n := 1) (show decode mX3_sortTurns.2.1 0 = .ok (.iconst 1, 1) by decide +kernel) ?_
  refine x_istore_n (pc := 1) (ls' := [some (.inr (.inr 1)), some (.inl 1), none, none]) (show decode mX3_sortTurns.2.1 1 = .ok (.istore_n 1, 1) by decide +kernel) rfl (by decide) rfl ?_
  exact hR
set_option maxRecDepth 4000 in
theorem sg_X3_sortTurns_2 {d : Nat} {x1 : Int} {h : xH} {Q : xH → Prop}
    (hR : (inI x1 ∧ inI (h 1 6)) ∧ ((h 1 6) ≤ x1 → Q h) ∧ (x1 < (h 1 6) → (0 ≤ x1 ∧ x1 < 10) ∧ gV wdC d mX3_sortTurns 19 [some (.inr (.inr 1)), some (.inl x1), some (.inl (h 5 x1)), some (.inl x1)] h Q)) :
    gV wdC d mX3_sortTurns 2 [some (.inr (.inr 1)), some (.inl x1), none, none] h Q := by
  unfold gV
  refine x_iload_n (pc := 2) (show decode mX3_sortTurns.2.1 2 = .ok (.iload_n 1, 1) by decide +kernel) rfl rfl ?_
  refine x_aload_n (pc := 3) (show decode mX3_sortTurns.2.1 3 = .ok (.aload_n 0, 1) by decide +kernel) rfl rfl ?_
  refine x_getI (pc := 4) (ki := 6) f3_31 rfl rfl (by decide) rfl (show decode mX3_sortTurns.2.1 4 = .ok (.getfield 31, 3) by decide +kernel) ?_
  obtain ⟨hg, hR⟩ := hR
  refine x_icmp_ge (pc := 7) (tgt := 68) (show decode mX3_sortTurns.2.1 7 = .ok (.if_icmp .ge 61, 3) by decide +kernel) (by decide) ⟨hg.1, hg.2⟩ (fun hc => ?_) (fun hc => ?_)
  · replace hR := hR.1 hc
    exact x_vret (pc := 68) rfl (show decode mX3_sortTurns.2.1 68 = .ok (.return_, 1) by decide +kernel) ⟨rfl, hR⟩
  · replace hR := hR.2 hc
    refine x_aload_n (pc := 10) (show decode mX3_sortTurns.2.1 10 = .ok (.aload_n 0, 1) by decide +kernel) rfl rfl ?_
    refine x_getR (pc := 11) f3_34 rfl rfl (show decode mX3_sortTurns.2.1 11 = .ok (.getfield 34, 3) by decide +kernel) ?_
    refine x_iload_n (pc := 14) (show decode mX3_sortTurns.2.1 14 = .ok (.iload_n 1, 1) by decide +kernel) rfl rfl ?_
    obtain ⟨hg, hR⟩ := hR
    refine x_iald (pc := 15) rfl (by decide) hg (show decode mX3_sortTurns.2.1 15 = .ok (.iaload, 1) by decide +kernel) ?_
    refine x_istore_n (pc := 16) (ls' := [some (.inr (.inr 1)), some (.inl x1), some (.inl (h 5 x1)), none]) (show decode mX3_sortTurns.2.1 16 = .ok (.istore_n 2, 1) by decide +kernel) rfl (by decide) rfl ?_
    refine x_iload_n (pc := 17) (show decode mX3_sortTurns.2.1 17 = .ok (.iload_n 1, 1) by decide +kernel) rfl rfl ?_
    refine x_istore_n (pc := 18) (ls' := [some (.inr (.inr 1)), some (.inl x1), some (.inl (h 5 x1)), some (.inl x1)]) (show decode mX3_sortTurns.2.1 18 = .ok (.istore_n 3, 1) by decide +kernel) rfl (by decide) rfl ?_
    exact hR
set_option maxRecDepth 4000 in
theorem sg_X3_sortTurns_19 {d : Nat} {x1 x2 x3 : Int} {h : xH} {Q : xH → Prop}
    (hR : (inI x3) ∧ (x3 ≤ 0 → (0 ≤ x3 ∧ x3 < 10) ∧ gV wdC d mX3_sortTurns 2 [some (.inr (.inr 1)), some (.inl (x1 + 1)), none, none] (xu h 5 x3 x2) Q) ∧ (0 < x3 → (0 ≤ (x3 - 1) ∧ (x3 - 1) < 10) ∧ (inI (h 5 (x3 - 1)) ∧ inI x2) ∧ ((h 5 (x3 - 1)) ≤ x2 → (0 ≤ x3 ∧ x3 < 10) ∧ gV wdC d mX3_sortTurns 2 [some (.inr (.inr 1)), some (.inl (x1 + 1)), none, none] (xu h 5 x3 x2) Q) ∧ (x2 < (h 5 (x3 - 1)) → (0 ≤ (x3 - 1) ∧ (x3 - 1) < 10) ∧ (0 ≤ x3 ∧ x3 < 10) ∧ gV wdC d mX3_sortTurns 19 [some (.inr (.inr 1)), some (.inl x1), some (.inl x2), some (.inl (x3 + (-1)))] (xu h 5 x3 (h 5 (x3 - 1))) Q))) :
    gV wdC d mX3_sortTurns 19 [some (.inr (.inr 1)), some (.inl x1), some (.inl x2), some (.inl x3)] h Q := by
  unfold gV
  refine x_iload_n (pc := 19) (show decode mX3_sortTurns.2.1 19 = .ok (.iload_n 3, 1) by decide +kernel) rfl rfl ?_
  obtain ⟨hg, hR⟩ := hR
  refine x_if_le (pc := 20) (tgt := 55) (show decode mX3_sortTurns.2.1 20 = .ok (.ifCond .le 35, 3) by decide +kernel) (by decide) hg (fun hc => ?_) (fun hc => ?_)
  · replace hR := hR.1 hc
    refine x_aload_n (pc := 55) (show decode mX3_sortTurns.2.1 55 = .ok (.aload_n 0, 1) by decide +kernel) rfl rfl ?_
    refine x_getR (pc := 56) f3_34 rfl rfl (show decode mX3_sortTurns.2.1 56 = .ok (.getfield 34, 3) by decide +kernel) ?_
    refine x_iload_n (pc := 59) (show decode mX3_sortTurns.2.1 59 = .ok (.iload_n 3, 1) by decide +kernel) rfl rfl ?_
    refine x_iload_n (pc := 60) (show decode mX3_sortTurns.2.1 60 = .ok (.iload_n 2, 1) by decide +kernel) rfl rfl ?_
    obtain ⟨hg, hR⟩ := hR
    refine x_iast (pc := 61) rfl (by decide) hg (show decode mX3_sortTurns.2.1 61 = .ok (.iastore, 1) by decide +kernel) ?_
    refine x_iinc (pc := 62) (ls' := [some (.inr (.inr 1)), some (.inl (x1 + 1)), some (.inl x2), some (.inl x3)]) (show decode mX3_sortTurns.2.1 62 = .ok (.iinc 1 1, 3) by decide +kernel) (by decide) rfl rfl ?_
    refine x_goto (pc := 65) (tgt := 2) (show decode mX3_sortTurns.2.1 65 = .ok (.goto (-63), 3) by decide +kernel) (by decide) ?_
    exact x_weak (xle_get (by repeat' constructor)) hR
  · replace hR := hR.2 hc
    refine x_aload_n (pc := 23) (show decode mX3_sortTurns.2.1 23 = .ok (.aload_n 0, 1) by decide +kernel) rfl rfl ?_
    refine x_getR (pc := 24) f3_34 rfl rfl (show decode mX3_sortTurns.2.1 24 = .ok (.getfield 34, 3) by decide +kernel) ?_
    refine x_iload_n (pc := 27) (show decode mX3_sortTurns.2.1 27 = .ok (.iload_n 3, 1) by decide +kernel) rfl rfl ?_
    refine x_iconst (pc := 28) (n := 1) (show decode mX3_sortTurns.2.1 28 = .ok (.iconst 1, 1) by decide +kernel) ?_
    refine x_isub (pc := 29) (show decode mX3_sortTurns.2.1 29 = .ok (.isub, 1) by decide +kernel) ?_
    obtain ⟨hg, hR⟩ := hR
    refine x_iald (pc := 30) rfl (by decide) hg (show decode mX3_sortTurns.2.1 30 = .ok (.iaload, 1) by decide +kernel) ?_
    refine x_iload_n (pc := 31) (show decode mX3_sortTurns.2.1 31 = .ok (.iload_n 2, 1) by decide +kernel) rfl rfl ?_
    obtain ⟨hg, hR⟩ := hR
    refine x_icmp_le (pc := 32) (tgt := 55) (show decode mX3_sortTurns.2.1 32 = .ok (.if_icmp .le 23, 3) by decide +kernel) (by decide) ⟨hg.1, hg.2⟩ (fun hc => ?_) (fun hc => ?_)
    · replace hR := hR.1 hc
      refine x_aload_n (pc := 55) (show decode mX3_sortTurns.2.1 55 = .ok (.aload_n 0, 1) by decide +kernel) rfl rfl ?_
      refine x_getR (pc := 56) f3_34 rfl rfl (show decode mX3_sortTurns.2.1 56 = .ok (.getfield 34, 3) by decide +kernel) ?_
      refine x_iload_n (pc := 59) (show decode mX3_sortTurns.2.1 59 = .ok (.iload_n 3, 1) by decide +kernel) rfl rfl ?_
      refine x_iload_n (pc := 60) (show decode mX3_sortTurns.2.1 60 = .ok (.iload_n 2, 1) by decide +kernel) rfl rfl ?_
      obtain ⟨hg, hR⟩ := hR
      refine x_iast (pc := 61) rfl (by decide) hg (show decode mX3_sortTurns.2.1 61 = .ok (.iastore, 1) by decide +kernel) ?_
      refine x_iinc (pc := 62) (ls' := [some (.inr (.inr 1)), some (.inl (x1 + 1)), some (.inl x2), some (.inl x3)]) (show decode mX3_sortTurns.2.1 62 = .ok (.iinc 1 1, 3) by decide +kernel) (by decide) rfl rfl ?_
      refine x_goto (pc := 65) (tgt := 2) (show decode mX3_sortTurns.2.1 65 = .ok (.goto (-63), 3) by decide +kernel) (by decide) ?_
      exact x_weak (xle_get (by repeat' constructor)) hR
    · replace hR := hR.2 hc
      refine x_aload_n (pc := 35) (show decode mX3_sortTurns.2.1 35 = .ok (.aload_n 0, 1) by decide +kernel) rfl rfl ?_
      refine x_getR (pc := 36) f3_34 rfl rfl (show decode mX3_sortTurns.2.1 36 = .ok (.getfield 34, 3) by decide +kernel) ?_
      refine x_iload_n (pc := 39) (show decode mX3_sortTurns.2.1 39 = .ok (.iload_n 3, 1) by decide +kernel) rfl rfl ?_
      refine x_aload_n (pc := 40) (show decode mX3_sortTurns.2.1 40 = .ok (.aload_n 0, 1) by decide +kernel) rfl rfl ?_
      refine x_getR (pc := 41) f3_34 rfl rfl (show decode mX3_sortTurns.2.1 41 = .ok (.getfield 34, 3) by decide +kernel) ?_
      refine x_iload_n (pc := 44) (show decode mX3_sortTurns.2.1 44 = .ok (.iload_n 3, 1) by decide +kernel) rfl rfl ?_
      refine x_iconst (pc := 45) (n := 1) (show decode mX3_sortTurns.2.1 45 = .ok (.iconst 1, 1) by decide +kernel) ?_
      refine x_isub (pc := 46) (show decode mX3_sortTurns.2.1 46 = .ok (.isub, 1) by decide +kernel) ?_
      obtain ⟨hg, hR⟩ := hR
      refine x_iald (pc := 47) rfl (by decide) hg (show decode mX3_sortTurns.2.1 47 = .ok (.iaload, 1) by decide +kernel) ?_
      obtain ⟨hg, hR⟩ := hR
      refine x_iast (pc := 48) rfl (by decide) hg (show decode mX3_sortTurns.2.1 48 = .ok (.iastore, 1) by decide +kernel) ?_
      refine x_iinc (pc := 49) (ls' := [some (.inr (.inr 1)), some (.inl x1), some (.inl x2), some (.inl (x3 + (-1)))]) (show decode mX3_sortTurns.2.1 49 = .ok (.iinc 3 (-1), 3) by decide +kernel) (by decide) rfl rfl ?_
      refine x_goto (pc := 52) (tgt := 19) (show decode mX3_sortTurns.2.1 52 = .ok (.goto (-33), 3) by decide +kernel) (by decide) ?_
      exact hR
set_option maxRecDepth 4000 in
theorem sg_X3_isFilled_0 {d : Nat} {x1 x2 : Int} {h : xH} {Q : Int → xH → Prop}
    (hR : (inI (h 1 1) ∧ 0 ≤ x1 ∧ x1 ≤ 31) ∧ (inI (xandI ((h 1 1) / 2 ^ (Int.toNat x1)) 1)) ∧ (¬ (xandI ((h 1 1) / 2 ^ (Int.toNat x1)) 1) = 1 → gI wdC d mX3_isFilled 21 [some (.inr (.inr 1)), some (.inl x1), some (.inl x2), some (.inl 0), some (.inl 0)] h Q) ∧ ((xandI ((h 1 1) / 2 ^ (Int.toNat x1)) 1) = 1 → gI wdC d mX3_isFilled 21 [some (.inr (.inr 1)), some (.inl x1), some (.inl x2), some (.inl 1), some (.inl 0)] h Q)) :
    gI wdC d mX3_isFilled 0 [some (.inr (.inr 1)), some (.inl x1), some (.inl x2), none, none] h Q := by
  unfold gI
  refine x_aload_n (pc := 0) (show decode mX3_isFilled.2.1 0 = .ok (.aload_n 0, 1) by decide +kernel) rfl rfl ?_
  refine x_getI (pc := 1) (ki := 1) f3_15 rfl rfl (by decide) rfl (show decode mX3_isFilled.2.1 1 = .ok (.getfield 15, 3) by decide +kernel) ?_
  refine x_iload_n (pc := 4) (show decode mX3_isFilled.2.1 4 = .ok (.iload_n 1, 1) by decide +kernel) rfl rfl ?_
  obtain ⟨hg, hR⟩ := hR
  refine x_ishr (pc := 5) (show decode mX3_isFilled.2.1 5 = .ok (.ishr, 1) by decide +kernel) hg ?_
  refine x_iconst (pc := 6) (n := 1) (show decode mX3_isFilled.2.1 6 = .ok (.iconst 1, 1) by decide +kernel) ?_
  refine x_iand (pc := 7) (show decode mX3_isFilled.2.1 7 = .ok (.iand, 1) by decide +kernel) ?_
  refine x_iconst (pc := 8) (n := 1) (show decode mX3_isFilled.2.1 8 = .ok (.iconst 1, 1) by decide +kernel) ?_
  obtain ⟨hg, hR⟩ := hR
  refine x_icmp_ne (pc := 9) (tgt := 16) (show decode mX3_isFilled.2.1 9 = .ok (.if_icmp .ne 7, 3) by decide +kernel) (by decide) ⟨hg, (by unfold inI; decide)⟩ (fun hc => ?_) (fun hc => ?_)
  · replace hR := hR.1 hc
    refine x_iconst (pc := 16) (n := 0) (show decode mX3_isFilled.2.1 16 = .ok (.iconst 0, 1) by decide +kernel) ?_
    refine x_istore_n (pc := 17) (ls' := [some (.inr (.inr 1)), some (.inl x1), some (.inl x2), some (.inl 0), none]) (show decode mX3_isFilled.2.1 17 = .ok (.istore_n 3, 1) by decide +kernel) rfl (by decide) rfl ?_
    refine x_iconst (pc := 18) (n := 0) (show decode mX3_isFilled.2.1 18 = .ok (.iconst 0, 1) by decide +kernel) ?_
    refine x_istore (pc := 19) (ls' := [some (.inr (.inr 1)), some (.inl x1), some (.inl x2), some (.inl 0), some (.inl 0)]) (show decode mX3_isFilled.2.1 19 = .ok (.istore 4, 2) by decide +kernel) (by decide) rfl ?_
    exact hR
  · replace hR := hR.2 hc
    refine x_iconst (pc := 12) (n := 1) (show decode mX3_isFilled.2.1 12 = .ok (.iconst 1, 1) by decide +kernel) ?_
    refine x_goto (pc := 13) (tgt := 17) (show decode mX3_isFilled.2.1 13 = .ok (.goto 4, 3) by decide +kernel) (by decide) ?_
    refine x_istore_n (pc := 17) (ls' := [some (.inr (.inr 1)), some (.inl x1), some (.inl x2), some (.inl 1), none]) (show decode mX3_isFilled.2.1 17 = .ok (.istore_n 3, 1) by decide +kernel) rfl (by decide) rfl ?_
    refine x_iconst (pc := 18) (n := 0) (show decode mX3_isFilled.2.1 18 = .ok (.iconst 0, 1) by decide +kernel) ?_
    refine x_istore (pc := 19) (ls' := [some (.inr (.inr 1)), some (.inl x1), some (.inl x2), some (.inl 1), some (.inl 0)]) (show decode mX3_isFilled.2.1 19 = .ok (.istore 4, 2) by decide +kernel) (by decide) rfl ?_
    exact hR
set_option maxRecDepth 4000 in
theorem sg_X3_isFilled_21 {d : Nat} {x1 x2 x3 x4 : Int} {h : xH} {Q : Int → xH → Prop} (hd : 1 ≤ d)
    (hR : (inI x4 ∧ inI (h 1 6)) ∧ ((h 1 6) ≤ x4 → (x3 = 0 ∨ x3 = 1) ∧ Q x3 h) ∧ (x4 < (h 1 6) → (0 ≤ x4 ∧ x4 < 10) ∧ cI wdC (d - 1) mX3_slotOfTurn [.inl (h 5 x4)] h (fun r2 h1 => (inI r2 ∧ inI x1) ∧ (¬ r2 = x1 → gI wdC d mX3_isFilled 21 [some (.inr (.inr 1)), some (.inl x1), some (.inl x2), some (.inl x3), some (.inl (x4 + 1))] h1 Q) ∧ (r2 = x1 → (0 ≤ x4 ∧ x4 < 10) ∧ cI wdC (d - 1) mX3_rowOfTurn [.inl (h1 5 x4)] h1 (fun r4 h3 => (inI r4 ∧ inI x2) ∧ (x2 < r4 → gI wdC d mX3_isFilled 21 [some (.inr (.inr 1)), some (.inl x1), some (.inl x2), some (.inl x3), some (.inl (x4 + 1))] h3 Q) ∧ (r4 ≤ x2 → (inI x3) ∧ (¬ x3 = 0 → gI wdC d mX3_isFilled 21 [some (.inr (.inr 1)), some (.inl x1), some (.inl x2), some (.inl 0), some (.inl (x4 + 1))] h3 Q) ∧ (x3 = 0 → gI wdC d mX3_isFilled 21 [some (.inr (.inr 1)), some (.inl x1), some (.inl x2), some (.inl 1), some (.inl (x4 + 1))] h3 Q))))))) :
    gI wdC d mX3_isFilled 21 [some (.inr (.inr 1)), some (.inl x1), some (.inl x2), some (.inl x3), some (.inl x4)] h Q := by
  unfold gI
  refine x_iload (pc := 21) (show decode mX3_isFilled.2.1 21 = .ok (.iload 4, 2) by decide +kernel) rfl ?_
  refine x_aload_n (pc := 23) (show decode mX3_isFilled.2.1 23 = .ok (.aload_n 0, 1) by decide +kernel) rfl rfl ?_
  refine x_getI (pc := 24) (ki := 6) f3_31 rfl rfl (by decide) rfl (show decode mX3_isFilled.2.1 24 = .ok (.getfield 31, 3) by decide +kernel) ?_
  obtain ⟨hg, hR⟩ := hR
  refine x_icmp_ge (pc := 27) (tgt := 74) (show decode mX3_isFilled.2.1 27 = .ok (.if_icmp .ge 47, 3) by decide +kernel) (by decide) ⟨hg.1, hg.2⟩ (fun hc => ?_) (fun hc => ?_)
  · replace hR := hR.1 hc
    refine x_iload_n (pc := 74) (show decode mX3_isFilled.2.1 74 = .ok (.iload_n 3, 1) by decide +kernel) rfl rfl ?_
    exact x_zret (pc := 75) rfl (show decode mX3_isFilled.2.1 75 = .ok (.ireturn, 1) by decide +kernel) hR.1 ⟨_, rfl, hR.2⟩
  · replace hR := hR.2 hc
    refine x_aload_n (pc := 30) (show decode mX3_isFilled.2.1 30 = .ok (.aload_n 0, 1) by decide +kernel) rfl rfl ?_
    refine x_getR (pc := 31) f3_34 rfl rfl (show decode mX3_isFilled.2.1 31 = .ok (.getfield 34, 3) by decide +kernel) ?_
    refine x_iload (pc := 34) (show decode mX3_isFilled.2.1 34 = .ok (.iload 4, 2) by decide +kernel) rfl ?_
    obtain ⟨hg, hR⟩ := hR
    refine x_iald (pc := 36) rfl (by decide) hg (show decode mX3_isFilled.2.1 36 = .ok (.iaload, 1) by decide +kernel) ?_
    refine x_callS (pc := 37) (As := [.inl (h 5 x4)]) (rest := []) (lk3_63 rfl) sm_X3_slotOfTurn (Nat.le_of_ble_eq_true rfl) (Nat.le_of_ble_eq_true rfl) (show decode mX3_isFilled.2.1 37 = .ok (.invokestatic 63, 3) by decide +kernel) hd hR (fun r9 h1 hq => ?_)
    obtain ⟨r2, rfl, hR⟩ := hq
    show xG _ _ _ 40 _ [.inl r2] _ _
    refine x_iload_n (pc := 40) (show decode mX3_isFilled.2.1 40 = .ok (.iload_n 1, 1) by decide +kernel) rfl rfl ?_
    obtain ⟨hg, hR⟩ := hR
    refine x_icmp_ne (pc := 41) (tgt := 68) (show decode mX3_isFilled.2.1 41 = .ok (.if_icmp .ne 27, 3) by decide +kernel) (by decide) ⟨hg.1, hg.2⟩ (fun hc => ?_) (fun hc => ?_)
    · replace hR := hR.1 hc
      refine x_iinc (pc := 68) (ls' := [some (.inr (.inr 1)), some (.inl x1), some (.inl x2), some (.inl x3), some (.inl (x4 + 1))]) (show decode mX3_isFilled.2.1 68 = .ok (.iinc 4 1, 3) by decide +kernel) (by decide) rfl rfl ?_
      refine x_goto (pc := 71) (tgt := 21) (show decode mX3_isFilled.2.1 71 = .ok (.goto (-50), 3) by decide +kernel) (by decide) ?_
      exact hR
    · replace hR := hR.2 hc
      refine x_aload_n (pc := 44) (show decode mX3_isFilled.2.1 44 = .ok (.aload_n 0, 1) by decide +kernel) rfl rfl ?_
      refine x_getR (pc := 45) f3_34 rfl rfl (show decode mX3_isFilled.2.1 45 = .ok (.getfield 34, 3) by decide +kernel) ?_
      refine x_iload (pc := 48) (show decode mX3_isFilled.2.1 48 = .ok (.iload 4, 2) by decide +kernel) rfl ?_
      obtain ⟨hg, hR⟩ := hR
      refine x_iald (pc := 50) rfl (by decide) hg (show decode mX3_isFilled.2.1 50 = .ok (.iaload, 1) by decide +kernel) ?_
      refine x_callS (pc := 51) (As := [.inl (h1 5 x4)]) (rest := []) (lk3_66 rfl) sm_X3_rowOfTurn (Nat.le_of_ble_eq_true rfl) (Nat.le_of_ble_eq_true rfl) (show decode mX3_isFilled.2.1 51 = .ok (.invokestatic 66, 3) by decide +kernel) hd hR (fun r9 h3 hq => ?_)
      obtain ⟨r4, rfl, hR⟩ := hq
      show xG _ _ _ 54 _ [.inl r4] _ _
      refine x_iload_n (pc := 54) (show decode mX3_isFilled.2.1 54 = .ok (.iload_n 2, 1) by decide +kernel) rfl rfl ?_
      obtain ⟨hg, hR⟩ := hR
      refine x_icmp_gt (pc := 55) (tgt := 68) (show decode mX3_isFilled.2.1 55 = .ok (.if_icmp .gt 13, 3) by decide +kernel) (by decide) ⟨hg.1, hg.2⟩ (fun hc => ?_) (fun hc => ?_)
      · replace hR := hR.1 hc
        refine x_iinc (pc := 68) (ls' := [some (.inr (.inr 1)), some (.inl x1), some (.inl x2), some (.inl x3), some (.inl (x4 + 1))]) (show decode mX3_isFilled.2.1 68 = .ok (.iinc 4 1, 3) by decide +kernel) (by decide) rfl rfl ?_
        refine x_goto (pc := 71) (tgt := 21) (show decode mX3_isFilled.2.1 71 = .ok (.goto (-50), 3) by decide +kernel) (by decide) ?_
        exact hR
      · replace hR := hR.2 hc
        refine x_iload_n (pc := 58) (show decode mX3_isFilled.2.1 58 = .ok (.iload_n 3, 1) by decide +kernel) rfl rfl ?_
        obtain ⟨hg, hR⟩ := hR
        refine x_if_ne (pc := 59) (tgt := 66) (show decode mX3_isFilled.2.1 59 = .ok (.ifCond .ne 7, 3) by decide +kernel) (by decide) hg (fun hc => ?_) (fun hc => ?_)
        · replace hR := hR.1 hc
          refine x_iconst (pc := 66) (n := 0) (show decode mX3_isFilled.2.1 66 = .ok (.iconst 0, 1) by decide +kernel) ?_
          refine x_istore_n (pc := 67) (ls' := [some (.inr (.inr 1)), some (.inl x1), some (.inl x2), some (.inl 0), some (.inl x4)]) (show decode mX3_isFilled.2.1 67 = .ok (.istore_n 3, 1) by decide +kernel) rfl (by decide) rfl ?_
          refine x_iinc (pc := 68) (ls' := [some (.inr (.inr 1)), some (.inl x1), some (.inl x2), some (.inl 0), some (.inl (x4 + 1))]) (show decode mX3_isFilled.2.1 68 = .ok (.iinc 4 1, 3) by decide +kernel) (by decide) rfl rfl ?_
          refine x_goto (pc := 71) (tgt := 21) (show decode mX3_isFilled.2.1 71 = .ok (.goto (-50), 3) by decide +kernel) (by decide) ?_
          exact hR
        · replace hR := hR.2 hc
          refine x_iconst (pc := 62) (n := 1) (show decode mX3_isFilled.2.1 62 = .ok (.iconst 1, 1) by decide +kernel) ?_
          refine x_goto (pc := 63) (tgt := 67) (show decode mX3_isFilled.2.1 63 = .ok (.goto 4, 3) by decide +kernel) (by decide) ?_
          refine x_istore_n (pc := 67) (ls' := [some (.inr (.inr 1)), some (.inl x1), some (.inl x2), some (.inl 1), some (.inl x4)]) (show decode mX3_isFilled.2.1 67 = .ok (.istore_n 3, 1) by decide +kernel) rfl (by decide) rfl ?_
          refine x_iinc (pc := 68) (ls' := [some (.inr (.inr 1)), some (.inl x1), some (.inl x2), some (.inl 1), some (.inl (x4 + 1))]) (show decode mX3_isFilled.2.1 68 = .ok (.iinc 4 1, 3) by decide +kernel) (by decide) rfl rfl ?_
          refine x_goto (pc := 71) (tgt := 21) (show decode mX3_isFilled.2.1 71 = .ok (.goto (-50), 3) by decide +kernel) (by decide) ?_
          exact hR
set_option maxRecDepth 4000 in
theorem sg_X3_turnsFull_0 {d : Nat} {x1 : Int} {h : xH} {Q : Int → xH → Prop} (hd : 1 ≤ d)
    (hR : (0 ≤ x1 ∧ x1 < 10) ∧ cI wdC (d - 1) mX3_slotOfTurn [.inl (h 5 x1)] h (fun r2 h1 => (0 ≤ x1 ∧ x1 < 10) ∧ cI wdC (d - 1) mX3_rowOfTurn [.inl (h1 5 x1)] h1 (fun r4 h3 => cI wdC (d - 1) mX3_isFilled [.inr (.inr 1), .inl r2, .inl r4] h3 (fun r6 h5 => (r6 = 0 ∨ r6 = 1) ∧ Q r6 h5)))) :
    gI wdC d mX3_turnsFull 0 [some (.inr (.inr 1)), some (.inl x1)] h Q := by
  unfold gI
  refine x_aload_n (pc := 0) (show decode mX3_turnsFull.2.1 0 = .ok (.aload_n 0, 1) by decide +kernel) rfl rfl ?_
  refine x_aload_n (pc := 1) (show decode mX3_turnsFull.2.1 1 = .ok (.aload_n 0, 1) by decide +kernel) rfl rfl ?_
  refine x_getR (pc := 2) f3_34 rfl rfl (show decode mX3_turnsFull.2.1 2 = .ok (.getfield 34, 3) by decide +kernel) ?_
  refine x_iload_n (pc := 5) (show decode mX3_turnsFull.2.1 5 = .ok (.iload_n 1, 1) by decide +kernel) rfl rfl ?_
  obtain ⟨hg, hR⟩ := hR
  refine x_iald (pc := 6) rfl (by decide) hg (show decode mX3_turnsFull.2.1 6 = .ok (.iaload, 1) by decide +kernel) ?_
  refine x_callS (pc := 7) (As := [.inl (h 5 x1)]) (rest := [.inr (.inr 1)]) (lk3_63 rfl) sm_X3_slotOfTurn (Nat.le_of_ble_eq_true rfl) (Nat.le_of_ble_eq_true rfl) (show decode mX3_turnsFull.2.1 7 = .ok (.invokestatic 63, 3) by decide +kernel) hd hR (fun r9 h1 hq => ?_)
  obtain ⟨r2, rfl, hR⟩ := hq
  show xG _ _ _ 10 _ [.inl r2, .inr (.inr 1)] _ _
  refine x_aload_n (pc := 10) (show decode mX3_turnsFull.2.1 10 = .ok (.aload_n 0, 1) by decide +kernel) rfl rfl ?_
  refine x_getR (pc := 11) f3_34 rfl rfl (show decode mX3_turnsFull.2.1 11 = .ok (.getfield 34, 3) by decide +kernel) ?_
  refine x_iload_n (pc := 14) (show decode mX3_turnsFull.2.1 14 = .ok (.iload_n 1, 1) by decide +kernel) rfl rfl ?_
  obtain ⟨hg, hR⟩ := hR
  refine x_iald (pc := 15) rfl (by decide) hg (show decode mX3_turnsFull.2.1 15 = .ok (.iaload, 1) by decide +kernel) ?_
  refine x_callS (pc := 16) (As := [.inl (h1 5 x1)]) (rest := [.inl r2, .inr (.inr 1)]) (lk3_66 rfl) sm_X3_rowOfTurn (Nat.le_of_ble_eq_true rfl) (Nat.le_of_ble_eq_true rfl) (show decode mX3_turnsFull.2.1 16 = .ok (.invokestatic 66, 3) by decide +kernel) hd hR (fun r9 h3 hq => ?_)
  obtain ⟨r4, rfl, hR⟩ := hq
  show xG _ _ _ 19 _ [.inl r4, .inl r2, .inr (.inr 1)] _ _
  refine x_callV (pc := 19) (As := [.inl r2, .inl r4]) (rest := []) (lk3_69 rfl) im_X3_isFilled sl_X3_isFilled rfl rfl rfl (Nat.le_of_ble_eq_true rfl) (Nat.le_of_ble_eq_true rfl) (show decode mX3_turnsFull.2.1 19 = .ok (.invokevirtual 69, 3) by decide +kernel) hd hR (fun r9 h5 hq => ?_)
  obtain ⟨r6, rfl, hR⟩ := hq
  show xG _ _ _ 22 _ [.inl r6] _ _
  exact x_zret (pc := 22) rfl (show decode mX3_turnsFull.2.1 22 = .ok (.ireturn, 1) by decide +kernel) hR.1 ⟨_, rfl, hR.2⟩
set_option maxRecDepth 4000 in
theorem sg_X3_turnsInto_0 {d : Nat} {x1 : Int} {h : xH} {Q : Int → xH → Prop}
    (hR : gI wdC d mX3_turnsInto 4 [some (.inr (.inr 1)), some (.inl x1), some (.inl 0), some (.inl 0)] h Q) :
    gI wdC d mX3_turnsInto 0 [some (.inr (.inr 1)), some (.inl x1), none, none] h Q := by
  unfold gI
  refine x_iconst (pc := 0) (n := 0) (show decode mX3_turnsInto.2.1 0 = .ok (.iconst 0, 1) by decide +kernel) ?_
  refine x_istore_n (pc := 1) (ls' := [some (.inr (.inr 1)), some (.inl x1), some (.inl 0), none]) (show decode mX3_turnsInto.2.1 1 = .ok (.istore_n 2, 1) by decide +kernel) rfl (by decide) rfl ?_
  refine x_iconst (pc := 2) (n := 0) (show decode mX3_turnsInto.2.1 2 = .ok (.iconst 0, 1) by decide +kernel) ?_
  refine x_istore_n (pc := 3) (ls' := [some (.inr (.inr 1)), some (.inl x1), some (.inl 0), some (.inl 0)]) (show decode mX3_turnsInto.2.1 3 = .ok (.istore_n 3, 1) by decide +kernel) rfl (by decide) rfl ?_
  exact hR
set_option maxRecDepth 4000 in
theorem sg_X3_turnsInto_4 {d : Nat} {x1 x2 x3 : Int} {h : xH} {Q : Int → xH → Prop} (hd : 1 ≤ d)
    (hR : (inI x3 ∧ inI (h 1 6)) ∧ ((h 1 6) ≤ x3 → Q x2 h) ∧ (x3 < (h 1 6) → cI wdC (d - 1) mX3_turnsFull [.inr (.inr 1), .inl x3] h (fun r2 h1 => (inI r2 ∧ inI x1) ∧ (¬ r2 = x1 → gI wdC d mX3_turnsInto 4 [some (.inr (.inr 1)), some (.inl x1), some (.inl x2), some (.inl (x3 + 1))] h1 Q) ∧ (r2 = x1 → gI wdC d mX3_turnsInto 4 [some (.inr (.inr 1)), some (.inl x1), some (.inl (x2 + 1)), some (.inl (x3 + 1))] h1 Q)))) :
    gI wdC d mX3_turnsInto 4 [some (.inr (.inr 1)), some (.inl x1), some (.inl x2), some (.inl x3)] h Q := by
  unfold gI
  refine x_iload_n (pc := 4) (show decode mX3_turnsInto.2.1 4 = .ok (.iload_n 3, 1) by decide +kernel) rfl rfl ?_
  refine x_aload_n (pc := 5) (show decode mX3_turnsInto.2.1 5 = .ok (.aload_n 0, 1) by decide +kernel) rfl rfl ?_
  refine x_getI (pc := 6) (ki := 6) f3_31 rfl rfl (by decide) rfl (show decode mX3_turnsInto.2.1 6 = .ok (.getfield 31, 3) by decide +kernel) ?_
  obtain ⟨hg, hR⟩ := hR
  refine x_icmp_ge (pc := 9) (tgt := 30) (show decode mX3_turnsInto.2.1 9 = .ok (.if_icmp .ge 21, 3) by decide +kernel) (by decide) ⟨hg.1, hg.2⟩ (fun hc => ?_) (fun hc => ?_)
  · replace hR := hR.1 hc
    refine x_iload_n (pc := 30) (show decode mX3_turnsInto.2.1 30 = .ok (.iload_n 2, 1) by decide +kernel) rfl rfl ?_
    exact x_iret (pc := 31) rfl (show decode mX3_turnsInto.2.1 31 = .ok (.ireturn, 1) by decide +kernel) ⟨_, rfl, hR⟩
  · replace hR := hR.2 hc
    refine x_aload_n (pc := 12) (show decode mX3_turnsInto.2.1 12 = .ok (.aload_n 0, 1) by decide +kernel) rfl rfl ?_
    refine x_iload_n (pc := 13) (show decode mX3_turnsInto.2.1 13 = .ok (.iload_n 3, 1) by decide +kernel) rfl rfl ?_
    refine x_callV (pc := 14) (As := [.inl x3]) (rest := []) (lk3_73 rfl) im_X3_turnsFull sl_X3_turnsFull rfl rfl rfl (Nat.le_of_ble_eq_true rfl) (Nat.le_of_ble_eq_true rfl) (show decode mX3_turnsInto.2.1 14 = .ok (.invokevirtual 73, 3) by decide +kernel) hd hR (fun r9 h1 hq => ?_)
    obtain ⟨r2, rfl, hR⟩ := hq
    show xG _ _ _ 17 _ [.inl r2] _ _
    refine x_iload_n (pc := 17) (show decode mX3_turnsInto.2.1 17 = .ok (.iload_n 1, 1) by decide +kernel) rfl rfl ?_
    obtain ⟨hg, hR⟩ := hR
    refine x_icmp_ne (pc := 18) (tgt := 24) (show decode mX3_turnsInto.2.1 18 = .ok (.if_icmp .ne 6, 3) by decide +kernel) (by decide) ⟨hg.1, hg.2⟩ (fun hc => ?_) (fun hc => ?_)
    · replace hR := hR.1 hc
      refine x_iinc (pc := 24) (ls' := [some (.inr (.inr 1)), some (.inl x1), some (.inl x2), some (.inl (x3 + 1))]) (show decode mX3_turnsInto.2.1 24 = .ok (.iinc 3 1, 3) by decide +kernel) (by decide) rfl rfl ?_
      refine x_goto (pc := 27) (tgt := 4) (show decode mX3_turnsInto.2.1 27 = .ok (.goto (-23), 3) by decide +kernel) (by decide) ?_
      exact hR
    · replace hR := hR.2 hc
      refine x_iinc (pc := 21) (ls' := [some (.inr (.inr 1)), some (.inl x1), some (.inl (x2 + 1)), some (.inl x3)]) (show decode mX3_turnsInto.2.1 21 = .ok (.iinc 2 1, 3) by decide +kernel) (by decide) rfl rfl ?_
      refine x_iinc (pc := 24) (ls' := [some (.inr (.inr 1)), some (.inl x1), some (.inl (x2 + 1)), some (.inl (x3 + 1))]) (show decode mX3_turnsInto.2.1 24 = .ok (.iinc 3 1, 3) by decide +kernel) (by decide) rfl rfl ?_
      refine x_goto (pc := 27) (tgt := 4) (show decode mX3_turnsInto.2.1 27 = .ok (.goto (-23), 3) by decide +kernel) (by decide) ?_
      exact hR
set_option maxRecDepth 4000 in
theorem sg_X3_lacksPair_0 {d : Nat} {x1 : Int} {h : xH} {Q : Int → xH → Prop} (hd : 1 ≤ d)
    (hR : (0 ≤ x1 ∧ x1 < 30) ∧ (0 ≤ x1 ∧ x1 < 30) ∧ cB wdC (d - 1) mX3_isFilled [.inr (.inr 1), .inl (h 3 x1), .inl (h 2 x1)] h (fun h1 => cB wdC (d - 1) mX3_isFilled [.inr (.inr 1), .inl ((h 3 x1) + 1), .inl (h 2 x1)] h1 (fun h2 => Q 0 h2) (fun h2 => Q 1 h2)) (fun h1 => Q 1 h1)) :
    gI wdC d mX3_lacksPair 0 [some (.inr (.inr 1)), some (.inl x1), none, none] h Q := by
  unfold gI
  refine x_aload_n (pc := 0) (show decode mX3_lacksPair.2.1 0 = .ok (.aload_n 0, 1) by decide +kernel) rfl rfl ?_
  refine x_getR (pc := 1) f3_25 rfl rfl (show decode mX3_lacksPair.2.1 1 = .ok (.getfield 25, 3) by decide +kernel) ?_
  refine x_iload_n (pc := 4) (show decode mX3_lacksPair.2.1 4 = .ok (.iload_n 1, 1) by decide +kernel) rfl rfl ?_
  obtain ⟨hg, hR⟩ := hR
  refine x_iald (pc := 5) rfl (by decide) hg (show decode mX3_lacksPair.2.1 5 = .ok (.iaload, 1) by decide +kernel) ?_
  refine x_istore_n (pc := 6) (ls' := [some (.inr (.inr 1)), some (.inl x1), some (.inl (h 3 x1)), none]) (show decode mX3_lacksPair.2.1 6 = .ok (.istore_n 2, 1) by decide +kernel) rfl (by decide) rfl ?_
  refine x_aload_n (pc := 7) (show decode mX3_lacksPair.2.1 7 = .ok (.aload_n 0, 1) by decide +kernel) rfl rfl ?_
  refine x_getR (pc := 8) f3_21 rfl rfl (show decode mX3_lacksPair.2.1 8 = .ok (.getfield 21, 3) by decide +kernel) ?_
  refine x_iload_n (pc := 11) (show decode mX3_lacksPair.2.1 11 = .ok (.iload_n 1, 1) by decide +kernel) rfl rfl ?_
  obtain ⟨hg, hR⟩ := hR
  refine x_iald (pc := 12) rfl (by decide) hg (show decode mX3_lacksPair.2.1 12 = .ok (.iaload, 1) by decide +kernel) ?_
  refine x_istore_n (pc := 13) (ls' := [some (.inr (.inr 1)), some (.inl x1), some (.inl (h 3 x1)), some (.inl (h 2 x1))]) (show decode mX3_lacksPair.2.1 13 = .ok (.istore_n 3, 1) by decide +kernel) rfl (by decide) rfl ?_
  refine x_aload_n (pc := 14) (show decode mX3_lacksPair.2.1 14 = .ok (.aload_n 0, 1) by decide +kernel) rfl rfl ?_
  refine x_iload_n (pc := 15) (show decode mX3_lacksPair.2.1 15 = .ok (.iload_n 2, 1) by decide +kernel) rfl rfl ?_
  refine x_iload_n (pc := 16) (show decode mX3_lacksPair.2.1 16 = .ok (.iload_n 3, 1) by decide +kernel) rfl rfl ?_
  refine x_callV (pc := 17) (As := [.inl (h 3 x1), .inl (h 2 x1)]) (rest := []) (lk3_69 rfl) im_X3_isFilled sl_X3_isFilled rfl rfl rfl (Nat.le_of_ble_eq_true rfl) (Nat.le_of_ble_eq_true rfl) (show decode mX3_lacksPair.2.1 17 = .ok (.invokevirtual 69, 3) by decide +kernel) hd hR (fun r9 h1 hq => ?_)
  obtain ⟨r8, rfl, hq⟩ := hq
  rcases hq with ⟨rfl, hR⟩ | ⟨rfl, hR⟩
  · show xG _ _ _ 20 _ [.inl 1] _ _
    refine x_if_eq (pc := 20) (tgt := 34) (show decode mX3_lacksPair.2.1 20 = .ok (.ifCond .eq 14, 3) by decide +kernel) (by decide) (by unfold inI; decide) (fun hc => absurd hc (by decide)) (fun _ => ?_)
    refine x_aload_n (pc := 23) (show decode mX3_lacksPair.2.1 23 = .ok (.aload_n 0, 1) by decide +kernel) rfl rfl ?_
    refine x_iload_n (pc := 24) (show decode mX3_lacksPair.2.1 24 = .ok (.iload_n 2, 1) by decide +kernel) rfl rfl ?_
    refine x_iconst (pc := 25) (n := 1) (show decode mX3_lacksPair.2.1 25 = .ok (.iconst 1, 1) by decide +kernel) ?_
    refine x_iadd (pc := 26) (show decode mX3_lacksPair.2.1 26 = .ok (.iadd, 1) by decide +kernel) ?_
    refine x_iload_n (pc := 27) (show decode mX3_lacksPair.2.1 27 = .ok (.iload_n 3, 1) by decide +kernel) rfl rfl ?_
    refine x_callV (pc := 28) (As := [.inl ((h 3 x1) + 1), .inl (h 2 x1)]) (rest := []) (lk3_69 rfl) im_X3_isFilled sl_X3_isFilled rfl rfl rfl (Nat.le_of_ble_eq_true rfl) (Nat.le_of_ble_eq_true rfl) (show decode mX3_lacksPair.2.1 28 = .ok (.invokevirtual 69, 3) by decide +kernel) hd hR (fun r9 h2 hq => ?_)
    obtain ⟨r8, rfl, hq⟩ := hq
    rcases hq with ⟨rfl, hR⟩ | ⟨rfl, hR⟩
    · show xG _ _ _ 31 _ [.inl 1] _ _
      refine x_if_ne (pc := 31) (tgt := 38) (show decode mX3_lacksPair.2.1 31 = .ok (.ifCond .ne 7, 3) by decide +kernel) (by decide) (by unfold inI; decide) (fun _ => ?_) (fun hc => absurd hc (by decide))
      refine x_iconst (pc := 38) (n := 0) (show decode mX3_lacksPair.2.1 38 = .ok (.iconst 0, 1) by decide +kernel) ?_
      exact x_zret (pc := 39) rfl (show decode mX3_lacksPair.2.1 39 = .ok (.ireturn, 1) by decide +kernel) (by decide) ⟨_, rfl, hR⟩
    · show xG _ _ _ 31 _ [.inl 0] _ _
      refine x_if_ne (pc := 31) (tgt := 38) (show decode mX3_lacksPair.2.1 31 = .ok (.ifCond .ne 7, 3) by decide +kernel) (by decide) (by unfold inI; decide) (fun hc => absurd hc (by decide)) (fun _ => ?_)
      refine x_iconst (pc := 34) (n := 1) (show decode mX3_lacksPair.2.1 34 = .ok (.iconst 1, 1) by decide +kernel) ?_
      refine x_goto (pc := 35) (tgt := 39) (show decode mX3_lacksPair.2.1 35 = .ok (.goto 4, 3) by decide +kernel) (by decide) ?_
      exact x_zret (pc := 39) rfl (show decode mX3_lacksPair.2.1 39 = .ok (.ireturn, 1) by decide +kernel) (by decide) ⟨_, rfl, hR⟩
  · show xG _ _ _ 20 _ [.inl 0] _ _
    refine x_if_eq (pc := 20) (tgt := 34) (show decode mX3_lacksPair.2.1 20 = .ok (.ifCond .eq 14, 3) by decide +kernel) (by decide) (by unfold inI; decide) (fun _ => ?_) (fun hc => absurd hc (by decide))
    refine x_iconst (pc := 34) (n := 1) (show decode mX3_lacksPair.2.1 34 = .ok (.iconst 1, 1) by decide +kernel) ?_
    refine x_goto (pc := 35) (tgt := 39) (show decode mX3_lacksPair.2.1 35 = .ok (.goto 4, 3) by decide +kernel) (by decide) ?_
    exact x_zret (pc := 39) rfl (show decode mX3_lacksPair.2.1 39 = .ok (.ireturn, 1) by decide +kernel) (by decide) ⟨_, rfl, hR⟩
set_option maxRecDepth 4000 in
theorem sg_X3_uppermost_0 {d : Nat} {x1 : Int} {h : xH} {Q : Int → xH → Prop}
    (hR : gI wdC d mX3_uppermost 5 [some (.inr (.inr 1)), some (.inr (.inl x1)), none, some (.inl (-1)), some (.inl 0)] h Q) :
    gI wdC d mX3_uppermost 0 [some (.inr (.inr 1)), some (.inr (.inl x1)), none, none, none] h Q := by
  unfold gI
  refine x_iconst (pc := 0) (n := (-1)) (show decode mX3_uppermost.2.1 0 = .ok (.iconst (-1), 1) by decide +kernel) ?_
  refine x_istore_n (pc := 1) (ls' := [some (.inr (.inr 1)), some (.inr (.inl x1)), none, some (.inl (-1)), none]) (show decode mX3_uppermost.2.1 1 = .ok (.istore_n 3, 1) by decide +kernel) rfl (by decide) rfl ?_
  refine x_iconst (pc := 2) (n := 0) (show decode mX3_uppermost.2.1 2 = .ok (.iconst 0, 1) by decide +kernel) ?_
  refine x_istore (pc := 3) (ls' := [some (.inr (.inr 1)), some (.inr (.inl x1)), none, some (.inl (-1)), some (.inl 0)]) (show decode mX3_uppermost.2.1 3 = .ok (.istore 4, 2) by decide +kernel) (by decide) rfl ?_
  exact hR
set_option maxRecDepth 4000 in
theorem sg_X3_uppermost_5 {d : Nat} {x1 x3 x4 : Int} {h : xH} {Q : Int → xH → Prop} (hd : 1 ≤ d)
    (hR : (inI x4 ∧ inI (h 1 2)) ∧ ((h 1 2) ≤ x4 → Q x3 h) ∧ (x4 < (h 1 2) → cB wdC (d - 1) mX7_hasPin [.inr (.inl x1), .inl x4] h (fun h1 => (inI x3) ∧ (x3 < 0 → gI wdC d mX3_uppermost 5 [some (.inr (.inr 1)), some (.inr (.inl x1)), none, some (.inl x4), some (.inl (x4 + 1))] h1 Q) ∧ (0 ≤ x3 → cB wdC (d - 1) mX3_isAbove [.inr (.inr 1), .inl x4, .inl x3] h1 (fun h2 => gI wdC d mX3_uppermost 5 [some (.inr (.inr 1)), some (.inr (.inl x1)), none, some (.inl x4), some (.inl (x4 + 1))] h2 Q) (fun h2 => gI wdC d mX3_uppermost 5 [some (.inr (.inr 1)), some (.inr (.inl x1)), none, some (.inl x3), some (.inl (x4 + 1))] h2 Q))) (fun h1 => gI wdC d mX3_uppermost 5 [some (.inr (.inr 1)), some (.inr (.inl x1)), none, some (.inl x3), some (.inl (x4 + 1))] h1 Q))) :
    gI wdC d mX3_uppermost 5 [some (.inr (.inr 1)), some (.inr (.inl x1)), none, some (.inl x3), some (.inl x4)] h Q := by
  unfold gI
  refine x_iload (pc := 5) (show decode mX3_uppermost.2.1 5 = .ok (.iload 4, 2) by decide +kernel) rfl ?_
  refine x_aload_n (pc := 7) (show decode mX3_uppermost.2.1 7 = .ok (.aload_n 0, 1) by decide +kernel) rfl rfl ?_
  refine x_getI (pc := 8) (ki := 2) f3_18 rfl rfl (by decide) rfl (show decode mX3_uppermost.2.1 8 = .ok (.getfield 18, 3) by decide +kernel) ?_
  obtain ⟨hg, hR⟩ := hR
  refine x_icmp_ge (pc := 11) (tgt := 46) (show decode mX3_uppermost.2.1 11 = .ok (.if_icmp .ge 35, 3) by decide +kernel) (by decide) ⟨hg.1, hg.2⟩ (fun hc => ?_) (fun hc => ?_)
  · replace hR := hR.1 hc
    refine x_iload_n (pc := 46) (show decode mX3_uppermost.2.1 46 = .ok (.iload_n 3, 1) by decide +kernel) rfl rfl ?_
    exact x_iret (pc := 47) rfl (show decode mX3_uppermost.2.1 47 = .ok (.ireturn, 1) by decide +kernel) ⟨_, rfl, hR⟩
  · replace hR := hR.2 hc
    refine x_lload_n (pc := 14) (show decode mX3_uppermost.2.1 14 = .ok (.lload_n 1, 1) by decide +kernel) rfl rfl ?_
    refine x_iload (pc := 15) (show decode mX3_uppermost.2.1 15 = .ok (.iload 4, 2) by decide +kernel) rfl ?_
    refine x_callSN (pc := 17) (As := [.inr (.inl x1), .inl x4]) (rest := []) (lk3_77 rfl) sm_X7_hasPin (Nat.le_of_ble_eq_true rfl) (Nat.le_of_ble_eq_true rfl) (show decode mX3_uppermost.2.1 17 = .ok (.invokestatic 77, 3) by decide +kernel) hd hR (fun r9 h1 hq => ?_)
    obtain ⟨r8, rfl, hq⟩ := hq
    rcases hq with ⟨rfl, hR⟩ | ⟨rfl, hR⟩
    · show xG _ _ _ 20 _ [.inl 1] _ _
      refine x_if_eq (pc := 20) (tgt := 40) (show decode mX3_uppermost.2.1 20 = .ok (.ifCond .eq 20, 3) by decide +kernel) (by decide) (by unfold inI; decide) (fun hc => absurd hc (by decide)) (fun _ => ?_)
      refine x_iload_n (pc := 23) (show decode mX3_uppermost.2.1 23 = .ok (.iload_n 3, 1) by decide +kernel) rfl rfl ?_
      obtain ⟨hg, hR⟩ := hR
      refine x_if_lt (pc := 24) (tgt := 37) (show decode mX3_uppermost.2.1 24 = .ok (.ifCond .lt 13, 3) by decide +kernel) (by decide) hg (fun hc => ?_) (fun hc => ?_)
      · replace hR := hR.1 hc
        refine x_iload (pc := 37) (show decode mX3_uppermost.2.1 37 = .ok (.iload 4, 2) by decide +kernel) rfl ?_
        refine x_istore_n (pc := 39) (ls' := [some (.inr (.inr 1)), some (.inr (.inl x1)), none, some (.inl x4), some (.inl x4)]) (show decode mX3_uppermost.2.1 39 = .ok (.istore_n 3, 1) by decide +kernel) rfl (by decide) rfl ?_
        refine x_iinc (pc := 40) (ls' := [some (.inr (.inr 1)), some (.inr (.inl x1)), none, some (.inl x4), some (.inl (x4 + 1))]) (show decode mX3_uppermost.2.1 40 = .ok (.iinc 4 1, 3) by decide +kernel) (by decide) rfl rfl ?_
        refine x_goto (pc := 43) (tgt := 5) (show decode mX3_uppermost.2.1 43 = .ok (.goto (-38), 3) by decide +kernel) (by decide) ?_
        exact hR
      · replace hR := hR.2 hc
        refine x_aload_n (pc := 27) (show decode mX3_uppermost.2.1 27 = .ok (.aload_n 0, 1) by decide +kernel) rfl rfl ?_
        refine x_iload (pc := 28) (show decode mX3_uppermost.2.1 28 = .ok (.iload 4, 2) by decide +kernel) rfl ?_
        refine x_iload_n (pc := 30) (show decode mX3_uppermost.2.1 30 = .ok (.iload_n 3, 1) by decide +kernel) rfl rfl ?_
        refine x_callV (pc := 31) (As := [.inl x4, .inl x3]) (rest := []) (lk3_81 rfl) im_X3_isAbove sl_X3_isAbove rfl rfl rfl (Nat.le_of_ble_eq_true rfl) (Nat.le_of_ble_eq_true rfl) (show decode mX3_uppermost.2.1 31 = .ok (.invokevirtual 81, 3) by decide +kernel) hd hR (fun r9 h2 hq => ?_)
        obtain ⟨r8, rfl, hq⟩ := hq
        rcases hq with ⟨rfl, hR⟩ | ⟨rfl, hR⟩
        · show xG _ _ _ 34 _ [.inl 1] _ _
          refine x_if_eq (pc := 34) (tgt := 40) (show decode mX3_uppermost.2.1 34 = .ok (.ifCond .eq 6, 3) by decide +kernel) (by decide) (by unfold inI; decide) (fun hc => absurd hc (by decide)) (fun _ => ?_)
          refine x_iload (pc := 37) (show decode mX3_uppermost.2.1 37 = .ok (.iload 4, 2) by decide +kernel) rfl ?_
          refine x_istore_n (pc := 39) (ls' := [some (.inr (.inr 1)), some (.inr (.inl x1)), none, some (.inl x4), some (.inl x4)]) (show decode mX3_uppermost.2.1 39 = .ok (.istore_n 3, 1) by decide +kernel) rfl (by decide) rfl ?_
          refine x_iinc (pc := 40) (ls' := [some (.inr (.inr 1)), some (.inr (.inl x1)), none, some (.inl x4), some (.inl (x4 + 1))]) (show decode mX3_uppermost.2.1 40 = .ok (.iinc 4 1, 3) by decide +kernel) (by decide) rfl rfl ?_
          refine x_goto (pc := 43) (tgt := 5) (show decode mX3_uppermost.2.1 43 = .ok (.goto (-38), 3) by decide +kernel) (by decide) ?_
          exact hR
        · show xG _ _ _ 34 _ [.inl 0] _ _
          refine x_if_eq (pc := 34) (tgt := 40) (show decode mX3_uppermost.2.1 34 = .ok (.ifCond .eq 6, 3) by decide +kernel) (by decide) (by unfold inI; decide) (fun _ => ?_) (fun hc => absurd hc (by decide))
          refine x_iinc (pc := 40) (ls' := [some (.inr (.inr 1)), some (.inr (.inl x1)), none, some (.inl x3), some (.inl (x4 + 1))]) (show decode mX3_uppermost.2.1 40 = .ok (.iinc 4 1, 3) by decide +kernel) (by decide) rfl rfl ?_
          refine x_goto (pc := 43) (tgt := 5) (show decode mX3_uppermost.2.1 43 = .ok (.goto (-38), 3) by decide +kernel) (by decide) ?_
          exact hR
    · show xG _ _ _ 20 _ [.inl 0] _ _
      refine x_if_eq (pc := 20) (tgt := 40) (show decode mX3_uppermost.2.1 20 = .ok (.ifCond .eq 20, 3) by decide +kernel) (by decide) (by unfold inI; decide) (fun _ => ?_) (fun hc => absurd hc (by decide))
      refine x_iinc (pc := 40) (ls' := [some (.inr (.inr 1)), some (.inr (.inl x1)), none, some (.inl x3), some (.inl (x4 + 1))]) (show decode mX3_uppermost.2.1 40 = .ok (.iinc 4 1, 3) by decide +kernel) (by decide) rfl rfl ?_
      refine x_goto (pc := 43) (tgt := 5) (show decode mX3_uppermost.2.1 43 = .ok (.goto (-38), 3) by decide +kernel) (by decide) ?_
      exact hR
set_option maxRecDepth 4000 in
theorem sg_X3_isAbove_0 {d : Nat} {x1 x2 : Int} {h : xH} {Q : Int → xH → Prop}
    (hR : (0 ≤ x1 ∧ x1 < 30) ∧ (0 ≤ x2 ∧ x2 < 30) ∧ (inI (h 2 x1) ∧ inI (h 2 x2)) ∧ ((h 2 x1) < (h 2 x2) → Q 1 h) ∧ ((h 2 x2) ≤ (h 2 x1) → (0 ≤ x1 ∧ x1 < 30) ∧ (0 ≤ x2 ∧ x2 < 30) ∧ (inI (h 2 x1) ∧ inI (h 2 x2)) ∧ (¬ (h 2 x1) = (h 2 x2) → Q 0 h) ∧ ((h 2 x1) = (h 2 x2) → (0 ≤ x1 ∧ x1 < 30) ∧ (0 ≤ x2 ∧ x2 < 30) ∧ (inI (h 3 x1) ∧ inI (h 3 x2)) ∧ ((h 3 x2) ≤ (h 3 x1) → Q 0 h) ∧ ((h 3 x1) < (h 3 x2) → Q 1 h)))) :
    gI wdC d mX3_isAbove 0 [some (.inr (.inr 1)), some (.inl x1), some (.inl x2)] h Q := by
  unfold gI
  refine x_aload_n (pc := 0) (show decode mX3_isAbove.2.1 0 = .ok (.aload_n 0, 1) by decide +kernel) rfl rfl ?_
  refine x_getR (pc := 1) f3_21 rfl rfl (show decode mX3_isAbove.2.1 1 = .ok (.getfield 21, 3) by decide +kernel) ?_
  refine x_iload_n (pc := 4) (show decode mX3_isAbove.2.1 4 = .ok (.iload_n 1, 1) by decide +kernel) rfl rfl ?_
  obtain ⟨hg, hR⟩ := hR
  refine x_iald (pc := 5) rfl (by decide) hg (show decode mX3_isAbove.2.1 5 = .ok (.iaload, 1) by decide +kernel) ?_
  refine x_aload_n (pc := 6) (show decode mX3_isAbove.2.1 6 = .ok (.aload_n 0, 1) by decide +kernel) rfl rfl ?_
  refine x_getR (pc := 7) f3_21 rfl rfl (show decode mX3_isAbove.2.1 7 = .ok (.getfield 21, 3) by decide +kernel) ?_
  refine x_iload_n (pc := 10) (show decode mX3_isAbove.2.1 10 = .ok (.iload_n 2, 1) by decide +kernel) rfl rfl ?_
  obtain ⟨hg, hR⟩ := hR
  refine x_iald (pc := 11) rfl (by decide) hg (show decode mX3_isAbove.2.1 11 = .ok (.iaload, 1) by decide +kernel) ?_
  obtain ⟨hg, hR⟩ := hR
  refine x_icmp_lt (pc := 12) (tgt := 45) (show decode mX3_isAbove.2.1 12 = .ok (.if_icmp .lt 33, 3) by decide +kernel) (by decide) ⟨hg.1, hg.2⟩ (fun hc => ?_) (fun hc => ?_)
  · replace hR := hR.1 hc
    refine x_iconst (pc := 45) (n := 1) (show decode mX3_isAbove.2.1 45 = .ok (.iconst 1, 1) by decide +kernel) ?_
    refine x_goto (pc := 46) (tgt := 50) (show decode mX3_isAbove.2.1 46 = .ok (.goto 4, 3) by decide +kernel) (by decide) ?_
    exact x_zret (pc := 50) rfl (show decode mX3_isAbove.2.1 50 = .ok (.ireturn, 1) by decide +kernel) (by decide) ⟨_, rfl, hR⟩
  · replace hR := hR.2 hc
    refine x_aload_n (pc := 15) (show decode mX3_isAbove.2.1 15 = .ok (.aload_n 0, 1) by decide +kernel) rfl rfl ?_
    refine x_getR (pc := 16) f3_21 rfl rfl (show decode mX3_isAbove.2.1 16 = .ok (.getfield 21, 3) by decide +kernel) ?_
    refine x_iload_n (pc := 19) (show decode mX3_isAbove.2.1 19 = .ok (.iload_n 1, 1) by decide +kernel) rfl rfl ?_
    obtain ⟨hg, hR⟩ := hR
    refine x_iald (pc := 20) rfl (by decide) hg (show decode mX3_isAbove.2.1 20 = .ok (.iaload, 1) by decide +kernel) ?_
    refine x_aload_n (pc := 21) (show decode mX3_isAbove.2.1 21 = .ok (.aload_n 0, 1) by decide +kernel) rfl rfl ?_
    refine x_getR (pc := 22) f3_21 rfl rfl (show decode mX3_isAbove.2.1 22 = .ok (.getfield 21, 3) by decide +kernel) ?_
    refine x_iload_n (pc := 25) (show decode mX3_isAbove.2.1 25 = .ok (.iload_n 2, 1) by decide +kernel) rfl rfl ?_
    obtain ⟨hg, hR⟩ := hR
    refine x_iald (pc := 26) rfl (by decide) hg (show decode mX3_isAbove.2.1 26 = .ok (.iaload, 1) by decide +kernel) ?_
    obtain ⟨hg, hR⟩ := hR
    refine x_icmp_ne (pc := 27) (tgt := 49) (show decode mX3_isAbove.2.1 27 = .ok (.if_icmp .ne 22, 3) by decide +kernel) (by decide) ⟨hg.1, hg.2⟩ (fun hc => ?_) (fun hc => ?_)
    · replace hR := hR.1 hc
      refine x_iconst (pc := 49) (n := 0) (show decode mX3_isAbove.2.1 49 = .ok (.iconst 0, 1) by decide +kernel) ?_
      exact x_zret (pc := 50) rfl (show decode mX3_isAbove.2.1 50 = .ok (.ireturn, 1) by decide +kernel) (by decide) ⟨_, rfl, hR⟩
    · replace hR := hR.2 hc
      refine x_aload_n (pc := 30) (show decode mX3_isAbove.2.1 30 = .ok (.aload_n 0, 1) by decide +kernel) rfl rfl ?_
      refine x_getR (pc := 31) f3_25 rfl rfl (show decode mX3_isAbove.2.1 31 = .ok (.getfield 25, 3) by decide +kernel) ?_
      refine x_iload_n (pc := 34) (show decode mX3_isAbove.2.1 34 = .ok (.iload_n 1, 1) by decide +kernel) rfl rfl ?_
      obtain ⟨hg, hR⟩ := hR
      refine x_iald (pc := 35) rfl (by decide) hg (show decode mX3_isAbove.2.1 35 = .ok (.iaload, 1) by decide +kernel) ?_
      refine x_aload_n (pc := 36) (show decode mX3_isAbove.2.1 36 = .ok (.aload_n 0, 1) by decide +kernel) rfl rfl ?_
      refine x_getR (pc := 37) f3_25 rfl rfl (show decode mX3_isAbove.2.1 37 = .ok (.getfield 25, 3) by decide +kernel) ?_
      refine x_iload_n (pc := 40) (show decode mX3_isAbove.2.1 40 = .ok (.iload_n 2, 1) by decide +kernel) rfl rfl ?_
      obtain ⟨hg, hR⟩ := hR
      refine x_iald (pc := 41) rfl (by decide) hg (show decode mX3_isAbove.2.1 41 = .ok (.iaload, 1) by decide +kernel) ?_
      obtain ⟨hg, hR⟩ := hR
      refine x_icmp_ge (pc := 42) (tgt := 49) (show decode mX3_isAbove.2.1 42 = .ok (.if_icmp .ge 7, 3) by decide +kernel) (by decide) ⟨hg.1, hg.2⟩ (fun hc => ?_) (fun hc => ?_)
      · replace hR := hR.1 hc
        refine x_iconst (pc := 49) (n := 0) (show decode mX3_isAbove.2.1 49 = .ok (.iconst 0, 1) by decide +kernel) ?_
        exact x_zret (pc := 50) rfl (show decode mX3_isAbove.2.1 50 = .ok (.ireturn, 1) by decide +kernel) (by decide) ⟨_, rfl, hR⟩
      · replace hR := hR.2 hc
        refine x_iconst (pc := 45) (n := 1) (show decode mX3_isAbove.2.1 45 = .ok (.iconst 1, 1) by decide +kernel) ?_
        refine x_goto (pc := 46) (tgt := 50) (show decode mX3_isAbove.2.1 46 = .ok (.goto 4, 3) by decide +kernel) (by decide) ?_
        exact x_zret (pc := 50) rfl (show decode mX3_isAbove.2.1 50 = .ok (.ireturn, 1) by decide +kernel) (by decide) ⟨_, rfl, hR⟩
set_option maxRecDepth 4000 in
theorem sg_X3_flippedFill_0 {d : Nat} {h : xH} {Q : Int → xH → Prop}
    (hR : gI wdC d mX3_flippedFill 4 [some (.inr (.inr 1)), some (.inl 0), some (.inl 0)] h Q) :
    gI wdC d mX3_flippedFill 0 [some (.inr (.inr 1)), none, none] h Q := by
  unfold gI
  refine x_iconst (pc := 0) (n := 0) (show decode mX3_flippedFill.2.1 0 = .ok (.iconst 0, 1) by decide +kernel) ?_
  refine x_istore_n (pc := 1) (ls' := [some (.inr (.inr 1)), some (.inl 0), none]) (show decode mX3_flippedFill.2.1 1 = .ok (.istore_n 1, 1) by decide +kernel) rfl (by decide) rfl ?_
  refine x_iconst (pc := 2) (n := 0) (show decode mX3_flippedFill.2.1 2 = .ok (.iconst 0, 1) by decide +kernel) ?_
  refine x_istore_n (pc := 3) (ls' := [some (.inr (.inr 1)), some (.inl 0), some (.inl 0)]) (show decode mX3_flippedFill.2.1 3 = .ok (.istore_n 2, 1) by decide +kernel) rfl (by decide) rfl ?_
  exact hR
set_option maxRecDepth 4000 in
theorem sg_X3_flippedFill_4 {d : Nat} {x1 x2 : Int} {h : xH} {Q : Int → xH → Prop}
    (hR : (inI x2 ∧ inI (h 1 0)) ∧ ((h 1 0) ≤ x2 → Q x1 h) ∧ (x2 < (h 1 0) → (inI (h 1 1) ∧ 0 ≤ x2 ∧ x2 ≤ 31) ∧ (inI (xandI ((h 1 1) / 2 ^ (Int.toNat x2)) 1)) ∧ (¬ (xandI ((h 1 1) / 2 ^ (Int.toNat x2)) 1) = 1 → gI wdC d mX3_flippedFill 4 [some (.inr (.inr 1)), some (.inl x1), some (.inl (x2 + 1))] h Q) ∧ ((xandI ((h 1 1) / 2 ^ (Int.toNat x2)) 1) = 1 → (0 ≤ (((h 1 0) - 1) - x2) ∧ (((h 1 0) - 1) - x2) ≤ 31) ∧ gI wdC d mX3_flippedFill 4 [some (.inr (.inr 1)), some (.inl (xorI x1 (1 * 2 ^ (Int.toNat (((h 1 0) - 1) - x2))))), some (.inl (x2 + 1))] h Q))) :
    gI wdC d mX3_flippedFill 4 [some (.inr (.inr 1)), some (.inl x1), some (.inl x2)] h Q := by
  unfold gI
  refine x_iload_n (pc := 4) (show decode mX3_flippedFill.2.1 4 = .ok (.iload_n 2, 1) by decide +kernel) rfl rfl ?_
  refine x_aload_n (pc := 5) (show decode mX3_flippedFill.2.1 5 = .ok (.aload_n 0, 1) by decide +kernel) rfl rfl ?_
  refine x_getI (pc := 6) (ki := 0) f3_9 rfl rfl (by decide) rfl (show decode mX3_flippedFill.2.1 6 = .ok (.getfield 9, 3) by decide +kernel) ?_
  obtain ⟨hg, hR⟩ := hR
  refine x_icmp_ge (pc := 9) (tgt := 43) (show decode mX3_flippedFill.2.1 9 = .ok (.if_icmp .ge 34, 3) by decide +kernel) (by decide) ⟨hg.1, hg.2⟩ (fun hc => ?_) (fun hc => ?_)
  · replace hR := hR.1 hc
    refine x_iload_n (pc := 43) (show decode mX3_flippedFill.2.1 43 = .ok (.iload_n 1, 1) by decide +kernel) rfl rfl ?_
    exact x_iret (pc := 44) rfl (show decode mX3_flippedFill.2.1 44 = .ok (.ireturn, 1) by decide +kernel) ⟨_, rfl, hR⟩
  · replace hR := hR.2 hc
    refine x_aload_n (pc := 12) (show decode mX3_flippedFill.2.1 12 = .ok (.aload_n 0, 1) by decide +kernel) rfl rfl ?_
    refine x_getI (pc := 13) (ki := 1) f3_15 rfl rfl (by decide) rfl (show decode mX3_flippedFill.2.1 13 = .ok (.getfield 15, 3) by decide +kernel) ?_
    refine x_iload_n (pc := 16) (show decode mX3_flippedFill.2.1 16 = .ok (.iload_n 2, 1) by decide +kernel) rfl rfl ?_
    obtain ⟨hg, hR⟩ := hR
    refine x_ishr (pc := 17) (show decode mX3_flippedFill.2.1 17 = .ok (.ishr, 1) by decide +kernel) hg ?_
    refine x_iconst (pc := 18) (n := 1) (show decode mX3_flippedFill.2.1 18 = .ok (.iconst 1, 1) by decide +kernel) ?_
    refine x_iand (pc := 19) (show decode mX3_flippedFill.2.1 19 = .ok (.iand, 1) by decide +kernel) ?_
    refine x_iconst (pc := 20) (n := 1) (show decode mX3_flippedFill.2.1 20 = .ok (.iconst 1, 1) by decide +kernel) ?_
    obtain ⟨hg, hR⟩ := hR
    refine x_icmp_ne (pc := 21) (tgt := 37) (show decode mX3_flippedFill.2.1 21 = .ok (.if_icmp .ne 16, 3) by decide +kernel) (by decide) ⟨hg, (by unfold inI; decide)⟩ (fun hc => ?_) (fun hc => ?_)
    · replace hR := hR.1 hc
      refine x_iinc (pc := 37) (ls' := [some (.inr (.inr 1)), some (.inl x1), some (.inl (x2 + 1))]) (show decode mX3_flippedFill.2.1 37 = .ok (.iinc 2 1, 3) by decide +kernel) (by decide) rfl rfl ?_
      refine x_goto (pc := 40) (tgt := 4) (show decode mX3_flippedFill.2.1 40 = .ok (.goto (-36), 3) by decide +kernel) (by decide) ?_
      exact hR
    · replace hR := hR.2 hc
      refine x_iload_n (pc := 24) (show decode mX3_flippedFill.2.1 24 = .ok (.iload_n 1, 1) by decide +kernel) rfl rfl ?_
      refine x_iconst (pc := 25) (n := 1) (show decode mX3_flippedFill.2.1 25 = .ok (.iconst 1, 1) by decide +kernel) ?_
      refine x_aload_n (pc := 26) (show decode mX3_flippedFill.2.1 26 = .ok (.aload_n 0, 1) by decide +kernel) rfl rfl ?_
      refine x_getI (pc := 27) (ki := 0) f3_9 rfl rfl (by decide) rfl (show decode mX3_flippedFill.2.1 27 = .ok (.getfield 9, 3) by decide +kernel) ?_
      refine x_iconst (pc := 30) (n := 1) (show decode mX3_flippedFill.2.1 30 = .ok (.iconst 1, 1) by decide +kernel) ?_
      refine x_isub (pc := 31) (show decode mX3_flippedFill.2.1 31 = .ok (.isub, 1) by decide +kernel) ?_
      refine x_iload_n (pc := 32) (show decode mX3_flippedFill.2.1 32 = .ok (.iload_n 2, 1) by decide +kernel) rfl rfl ?_
      refine x_isub (pc := 33) (show decode mX3_flippedFill.2.1 33 = .ok (.isub, 1) by decide +kernel) ?_
      obtain ⟨hg, hR⟩ := hR
      refine x_ishl (pc := 34) (show decode mX3_flippedFill.2.1 34 = .ok (.ishl, 1) by decide +kernel) hg ?_
      refine x_ior (pc := 35) (show decode mX3_flippedFill.2.1 35 = .ok (.ior, 1) by decide +kernel) ?_
      refine x_istore_n (pc := 36) (ls' := [some (.inr (.inr 1)), some (.inl (xorI x1 (1 * 2 ^ (Int.toNat (((h 1 0) - 1) - x2))))), some (.inl x2)]) (show decode mX3_flippedFill.2.1 36 = .ok (.istore_n 1, 1) by decide +kernel) rfl (by decide) rfl ?_
      refine x_iinc (pc := 37) (ls' := [some (.inr (.inr 1)), some (.inl (xorI x1 (1 * 2 ^ (Int.toNat (((h 1 0) - 1) - x2))))), some (.inl (x2 + 1))]) (show decode mX3_flippedFill.2.1 37 = .ok (.iinc 2 1, 3) by decide +kernel) (by decide) rfl rfl ?_
      refine x_goto (pc := 40) (tgt := 4) (show decode mX3_flippedFill.2.1 40 = .ok (.goto (-36), 3) by decide +kernel) (by decide) ?_
      exact hR
set_option maxRecDepth 4000 in
theorem sg_X3_flippedTurn_0 {d : Nat} {x1 : Int} {h : xH} {Q : Int → xH → Prop} (hd : 1 ≤ d)
    (hR : cI wdC (d - 1) mX3_slotOfTurn [.inl x1] h (fun r2 h1 => cI wdC (d - 1) mX3_rowOfTurn [.inl x1] h1 (fun r4 h3 => cI wdC (d - 1) mX3_turnNumber [.inl (((h 1 0) - 1) - r2), .inl r4] h3 (fun r6 h5 => Q r6 h5)))) :
    gI wdC d mX3_flippedTurn 0 [some (.inr (.inr 1)), some (.inl x1)] h Q := by
  unfold gI
  refine x_aload_n (pc := 0) (show decode mX3_flippedTurn.2.1 0 = .ok (.aload_n 0, 1) by decide +kernel) rfl rfl ?_
  refine x_getI (pc := 1) (ki := 0) f3_9 rfl rfl (by decide) rfl (show decode mX3_flippedTurn.2.1 1 = .ok (.getfield 9, 3) by decide +kernel) ?_
  refine x_iconst (pc := 4) (n := 1) (show decode mX3_flippedTurn.2.1 4 = .ok (.iconst 1, 1) by decide +kernel) ?_
  refine x_isub (pc := 5) (show decode mX3_flippedTurn.2.1 5 = .ok (.isub, 1) by decide +kernel) ?_
  refine x_iload_n (pc := 6) (show decode mX3_flippedTurn.2.1 6 = .ok (.iload_n 1, 1) by decide +kernel) rfl rfl ?_
  refine x_callS (pc := 7) (As := [.inl x1]) (rest := [.inl ((h 1 0) - 1)]) (lk3_63 rfl) sm_X3_slotOfTurn (Nat.le_of_ble_eq_true rfl) (Nat.le_of_ble_eq_true rfl) (show decode mX3_flippedTurn.2.1 7 = .ok (.invokestatic 63, 3) by decide +kernel) hd hR (fun r9 h1 hq => ?_)
  obtain ⟨r2, rfl, hR⟩ := hq
  show xG _ _ _ 10 _ [.inl r2, .inl ((h 1 0) - 1)] _ _
  refine x_isub (pc := 10) (show decode mX3_flippedTurn.2.1 10 = .ok (.isub, 1) by decide +kernel) ?_
  refine x_iload_n (pc := 11) (show decode mX3_flippedTurn.2.1 11 = .ok (.iload_n 1, 1) by decide +kernel) rfl rfl ?_
  refine x_callS (pc := 12) (As := [.inl x1]) (rest := [.inl (((h 1 0) - 1) - r2)]) (lk3_66 rfl) sm_X3_rowOfTurn (Nat.le_of_ble_eq_true rfl) (Nat.le_of_ble_eq_true rfl) (show decode mX3_flippedTurn.2.1 12 = .ok (.invokestatic 66, 3) by decide +kernel) hd hR (fun r9 h3 hq => ?_)
  obtain ⟨r4, rfl, hR⟩ := hq
  show xG _ _ _ 15 _ [.inl r4, .inl (((h 1 0) - 1) - r2)] _ _
  refine x_callS (pc := 15) (As := [.inl (((h 1 0) - 1) - r2), .inl r4]) (rest := []) (lk3_49 rfl) sm_X3_turnNumber (Nat.le_of_ble_eq_true rfl) (Nat.le_of_ble_eq_true rfl) (show decode mX3_flippedTurn.2.1 15 = .ok (.invokestatic 49, 3) by decide +kernel) hd hR (fun r9 h5 hq => ?_)
  obtain ⟨r6, rfl, hR⟩ := hq
  show xG _ _ _ 18 _ [.inl r6] _ _
  exact x_iret (pc := 18) rfl (show decode mX3_flippedTurn.2.1 18 = .ok (.ireturn, 1) by decide +kernel) ⟨_, rfl, hR⟩
set_option maxRecDepth 4000 in
theorem sg_X3_flip_0 {d : Nat} {h : xH} {Q : xH → Prop}
    (hR : gV wdC d mX3_flip 2 [some (.inr (.inr 1)), some (.inl 0)] h Q) :
    gV wdC d mX3_flip 0 [some (.inr (.inr 1)), none] h Q := by
  unfold gV
  refine x_iconst (pc := 0) (n := 0) (show decode mX3_flip.2.1 0 = .ok (.iconst 0, 1) by decide +kernel) ?_
  refine x_istore_n (pc := 1) (ls' := [some (.inr (.inr 1)), some (.inl 0)]) (show decode mX3_flip.2.1 1 = .ok (.istore_n 1, 1) by decide +kernel) rfl (by decide) rfl ?_
  exact hR
set_option maxRecDepth 4000 in
theorem sg_X3_flip_2 {d : Nat} {x1 : Int} {h : xH} {Q : xH → Prop}
    (hR : (inI x1 ∧ inI (h 1 2)) ∧ ((h 1 2) ≤ x1 → gV wdC d mX3_flip 37 [some (.inr (.inr 1)), some (.inl 0)] h Q) ∧ (x1 < (h 1 2) → (0 ≤ x1 ∧ x1 < 30) ∧ (0 ≤ x1 ∧ x1 < 30) ∧ gV wdC d mX3_flip 2 [some (.inr (.inr 1)), some (.inl (x1 + 1))] (xu h 3 x1 (((h 1 0) - 2) - (h 3 x1))) Q)) :
    gV wdC d mX3_flip 2 [some (.inr (.inr 1)), some (.inl x1)] h Q := by
  unfold gV
  refine x_iload_n (pc := 2) (show decode mX3_flip.2.1 2 = .ok (.iload_n 1, 1) by decide +kernel) rfl rfl ?_
  refine x_aload_n (pc := 3) (show decode mX3_flip.2.1 3 = .ok (.aload_n 0, 1) by decide +kernel) rfl rfl ?_
  refine x_getI (pc := 4) (ki := 2) f3_18 rfl rfl (by decide) rfl (show decode mX3_flip.2.1 4 = .ok (.getfield 18, 3) by decide +kernel) ?_
  obtain ⟨hg, hR⟩ := hR
  refine x_icmp_ge (pc := 7) (tgt := 35) (show decode mX3_flip.2.1 7 = .ok (.if_icmp .ge 28, 3) by decide +kernel) (by decide) ⟨hg.1, hg.2⟩ (fun hc => ?_) (fun hc => ?_)
  · replace hR := hR.1 hc
    refine x_iconst (pc := 35) (n := 0) (show decode mX3_flip.2.1 35 = .ok (.iconst 0, 1) by decide +kernel) ?_
    refine x_istore_n (pc := 36) (ls' := [some (.inr (.inr 1)), some (.inl 0)]) (show decode mX3_flip.2.1 36 = .ok (.istore_n 1, 1) by decide +kernel) rfl (by decide) rfl ?_
    exact hR
  · replace hR := hR.2 hc
    refine x_aload_n (pc := 10) (show decode mX3_flip.2.1 10 = .ok (.aload_n 0, 1) by decide +kernel) rfl rfl ?_
    refine x_getR (pc := 11) f3_25 rfl rfl (show decode mX3_flip.2.1 11 = .ok (.getfield 25, 3) by decide +kernel) ?_
    refine x_iload_n (pc := 14) (show decode mX3_flip.2.1 14 = .ok (.iload_n 1, 1) by decide +kernel) rfl rfl ?_
    refine x_aload_n (pc := 15) (show decode mX3_flip.2.1 15 = .ok (.aload_n 0, 1) by decide +kernel) rfl rfl ?_
    refine x_getI (pc := 16) (ki := 0) f3_9 rfl rfl (by decide) rfl (show decode mX3_flip.2.1 16 = .ok (.getfield 9, 3) by decide +kernel) ?_
    refine x_iconst (pc := 19) (n := 2) (show decode mX3_flip.2.1 19 = .ok (.iconst 2, 1) by decide +kernel) ?_
    refine x_isub (pc := 20) (show decode mX3_flip.2.1 20 = .ok (.isub, 1) by decide +kernel) ?_
    refine x_aload_n (pc := 21) (show decode mX3_flip.2.1 21 = .ok (.aload_n 0, 1) by decide +kernel) rfl rfl ?_
    refine x_getR (pc := 22) f3_25 rfl rfl (show decode mX3_flip.2.1 22 = .ok (.getfield 25, 3) by decide +kernel) ?_
    refine x_iload_n (pc := 25) (show decode mX3_flip.2.1 25 = .ok (.iload_n 1, 1) by decide +kernel) rfl rfl ?_
    obtain ⟨hg, hR⟩ := hR
    refine x_iald (pc := 26) rfl (by decide) hg (show decode mX3_flip.2.1 26 = .ok (.iaload, 1) by decide +kernel) ?_
    refine x_isub (pc := 27) (show decode mX3_flip.2.1 27 = .ok (.isub, 1) by decide +kernel) ?_
    obtain ⟨hg, hR⟩ := hR
    refine x_iast (pc := 28) rfl (by decide) hg (show decode mX3_flip.2.1 28 = .ok (.iastore, 1) by decide +kernel) ?_
    refine x_iinc (pc := 29) (ls' := [some (.inr (.inr 1)), some (.inl (x1 + 1))]) (show decode mX3_flip.2.1 29 = .ok (.iinc 1 1, 3) by decide +kernel) (by decide) rfl rfl ?_
    refine x_goto (pc := 32) (tgt := 2) (show decode mX3_flip.2.1 32 = .ok (.goto (-30), 3) by decide +kernel) (by decide) ?_
    exact hR
set_option maxRecDepth 4000 in
theorem sg_X3_flip_37 {d : Nat} {x1 : Int} {h : xH} {Q : xH → Prop} (hd : 1 ≤ d)
    (hR : (inI x1 ∧ inI (h 1 6)) ∧ ((h 1 6) ≤ x1 → cV wdC (d - 1) mX3_sortTurns [.inr (.inr 1)] h (fun h1 => cI wdC (d - 1) mX3_flippedFill [.inr (.inr 1)] h1 (fun r3 h2 => Q (xu h2 1 1 r3)))) ∧ (x1 < (h 1 6) → (0 ≤ x1 ∧ x1 < 10) ∧ cI wdC (d - 1) mX3_flippedTurn [.inr (.inr 1), .inl (h 5 x1)] h (fun r5 h4 => (0 ≤ x1 ∧ x1 < 10) ∧ gV wdC d mX3_flip 37 [some (.inr (.inr 1)), some (.inl (x1 + 1))] (xu h4 5 x1 r5) Q))) :
    gV wdC d mX3_flip 37 [some (.inr (.inr 1)), some (.inl x1)] h Q := by
  unfold gV
  refine x_iload_n (pc := 37) (show decode mX3_flip.2.1 37 = .ok (.iload_n 1, 1) by decide +kernel) rfl rfl ?_
  refine x_aload_n (pc := 38) (show decode mX3_flip.2.1 38 = .ok (.aload_n 0, 1) by decide +kernel) rfl rfl ?_
  refine x_getI (pc := 39) (ki := 6) f3_31 rfl rfl (by decide) rfl (show decode mX3_flip.2.1 39 = .ok (.getfield 31, 3) by decide +kernel) ?_
  obtain ⟨hg, hR⟩ := hR
  refine x_icmp_ge (pc := 42) (tgt := 67) (show decode mX3_flip.2.1 42 = .ok (.if_icmp .ge 25, 3) by decide +kernel) (by decide) ⟨hg.1, hg.2⟩ (fun hc => ?_) (fun hc => ?_)
  · replace hR := hR.1 hc
    refine x_aload_n (pc := 67) (show decode mX3_flip.2.1 67 = .ok (.aload_n 0, 1) by decide +kernel) rfl rfl ?_
    refine x_callV (pc := 68) (As := []) (rest := []) (lk3_60 rfl) im_X3_sortTurns sl_X3_sortTurns rfl rfl rfl (Nat.le_of_ble_eq_true rfl) (Nat.le_of_ble_eq_true rfl) (show decode mX3_flip.2.1 68 = .ok (.invokevirtual 60, 3) by decide +kernel) hd hR (fun r9 h1 hq => ?_)
    obtain ⟨rfl, hR⟩ := hq
    show xG _ _ _ 71 _ [] _ _
    refine x_aload_n (pc := 71) (show decode mX3_flip.2.1 71 = .ok (.aload_n 0, 1) by decide +kernel) rfl rfl ?_
    refine x_aload_n (pc := 72) (show decode mX3_flip.2.1 72 = .ok (.aload_n 0, 1) by decide +kernel) rfl rfl ?_
    refine x_callV (pc := 73) (As := []) (rest := [.inr (.inr 1)]) (lk3_87 rfl) im_X3_flippedFill sl_X3_flippedFill rfl rfl rfl (Nat.le_of_ble_eq_true rfl) (Nat.le_of_ble_eq_true rfl) (show decode mX3_flip.2.1 73 = .ok (.invokevirtual 87, 3) by decide +kernel) hd hR (fun r9 h2 hq => ?_)
    obtain ⟨r3, rfl, hR⟩ := hq
    show xG _ _ _ 76 _ [.inl r3, .inr (.inr 1)] _ _
    refine x_putI (pc := 76) (ki := 1) f3_15 fp3_1 rfl rfl rfl (show decode mX3_flip.2.1 76 = .ok (.putfield 15, 3) by decide +kernel) ?_
    exact x_vret (pc := 79) rfl (show decode mX3_flip.2.1 79 = .ok (.return_, 1) by decide +kernel) ⟨rfl, hR⟩
  · replace hR := hR.2 hc
    refine x_aload_n (pc := 45) (show decode mX3_flip.2.1 45 = .ok (.aload_n 0, 1) by decide +kernel) rfl rfl ?_
    refine x_getR (pc := 46) f3_34 rfl rfl (show decode mX3_flip.2.1 46 = .ok (.getfield 34, 3) by decide +kernel) ?_
    refine x_iload_n (pc := 49) (show decode mX3_flip.2.1 49 = .ok (.iload_n 1, 1) by decide +kernel) rfl rfl ?_
    refine x_aload_n (pc := 50) (show decode mX3_flip.2.1 50 = .ok (.aload_n 0, 1) by decide +kernel) rfl rfl ?_
    refine x_aload_n (pc := 51) (show decode mX3_flip.2.1 51 = .ok (.aload_n 0, 1) by decide +kernel) rfl rfl ?_
    refine x_getR (pc := 52) f3_34 rfl rfl (show decode mX3_flip.2.1 52 = .ok (.getfield 34, 3) by decide +kernel) ?_
    refine x_iload_n (pc := 55) (show decode mX3_flip.2.1 55 = .ok (.iload_n 1, 1) by decide +kernel) rfl rfl ?_
    obtain ⟨hg, hR⟩ := hR
    refine x_iald (pc := 56) rfl (by decide) hg (show decode mX3_flip.2.1 56 = .ok (.iaload, 1) by decide +kernel) ?_
    refine x_callV (pc := 57) (As := [.inl (h 5 x1)]) (rest := [.inl x1, .inr (.inr 5)]) (lk3_84 rfl) im_X3_flippedTurn sl_X3_flippedTurn rfl rfl rfl (Nat.le_of_ble_eq_true rfl) (Nat.le_of_ble_eq_true rfl) (show decode mX3_flip.2.1 57 = .ok (.invokevirtual 84, 3) by decide +kernel) hd hR (fun r9 h4 hq => ?_)
    obtain ⟨r5, rfl, hR⟩ := hq
    show xG _ _ _ 60 _ [.inl r5, .inl x1, .inr (.inr 5)] _ _
    obtain ⟨hg, hR⟩ := hR
    refine x_iast (pc := 60) rfl (by decide) hg (show decode mX3_flip.2.1 60 = .ok (.iastore, 1) by decide +kernel) ?_
    refine x_iinc (pc := 61) (ls' := [some (.inr (.inr 1)), some (.inl (x1 + 1))]) (show decode mX3_flip.2.1 61 = .ok (.iinc 1 1, 3) by decide +kernel) (by decide) rfl rfl ?_
    refine x_goto (pc := 64) (tgt := 37) (show decode mX3_flip.2.1 64 = .ok (.goto (-27), 3) by decide +kernel) (by decide) ?_
    exact hR
set_option maxRecDepth 4000 in
theorem sg_X3_isEven_0 {d : Nat} {h : xH} {Q : Int → xH → Prop} (hd : 1 ≤ d)
    (hR : cI wdC (d - 1) mX3_flippedFill [.inr (.inr 1)] h (fun r2 h1 => (inI r2 ∧ inI (h1 1 1)) ∧ (r2 = (h1 1 1) → gI wdC d mX3_isEven 15 [some (.inr (.inr 1)), some (.inl 0)] h1 Q) ∧ (¬ r2 = (h1 1 1) → Q 0 h1))) :
    gI wdC d mX3_isEven 0 [some (.inr (.inr 1)), none] h Q := by
  unfold gI
  refine x_aload_n (pc := 0) (show decode mX3_isEven.2.1 0 = .ok (.aload_n 0, 1) by decide +kernel) rfl rfl ?_
  refine x_callV (pc := 1) (As := []) (rest := []) (lk3_87 rfl) im_X3_flippedFill sl_X3_flippedFill rfl rfl rfl (Nat.le_of_ble_eq_true rfl) (Nat.le_of_ble_eq_true rfl) (show decode mX3_isEven.2.1 1 = .ok (.invokevirtual 87, 3) by decide +kernel) hd hR (fun r9 h1 hq => ?_)
  obtain ⟨r2, rfl, hR⟩ := hq
  show xG _ _ _ 4 _ [.inl r2] _ _
  refine x_aload_n (pc := 4) (show decode mX3_isEven.2.1 4 = .ok (.aload_n 0, 1) by decide +kernel) rfl rfl ?_
  refine x_getI (pc := 5) (ki := 1) f3_15 rfl rfl (by decide) rfl (show decode mX3_isEven.2.1 5 = .ok (.getfield 15, 3) by decide +kernel) ?_
  obtain ⟨hg, hR⟩ := hR
  refine x_icmp_eq (pc := 8) (tgt := 13) (show decode mX3_isEven.2.1 8 = .ok (.if_icmp .eq 5, 3) by decide +kernel) (by decide) ⟨hg.1, hg.2⟩ (fun hc => ?_) (fun hc => ?_)
  · replace hR := hR.1 hc
    refine x_iconst (pc := 13) (n := 0) (show decode mX3_isEven.2.1 13 = .ok (.iconst 0, 1) by decide +kernel) ?_
    refine x_istore_n (pc := 14) (ls' := [some (.inr (.inr 1)), some (.inl 0)]) (show decode mX3_isEven.2.1 14 = .ok (.istore_n 1, 1) by decide +kernel) rfl (by decide) rfl ?_
    exact hR
  · replace hR := hR.2 hc
    refine x_iconst (pc := 11) (n := 0) (show decode mX3_isEven.2.1 11 = .ok (.iconst 0, 1) by decide +kernel) ?_
    exact x_zret (pc := 12) rfl (show decode mX3_isEven.2.1 12 = .ok (.ireturn, 1) by decide +kernel) (by decide) ⟨_, rfl, hR⟩
set_option maxRecDepth 4000 in
theorem sg_X3_isEven_15 {d : Nat} {x1 : Int} {h : xH} {Q : Int → xH → Prop} (hd : 1 ≤ d)
    (hR : (inI x1 ∧ inI (h 1 6)) ∧ ((h 1 6) ≤ x1 → gI wdC d mX3_isEven 50 [some (.inr (.inr 1)), some (.inl 0)] h Q) ∧ (x1 < (h 1 6) → (0 ≤ x1 ∧ x1 < 10) ∧ cI wdC (d - 1) mX3_flippedTurn [.inr (.inr 1), .inl (h 5 x1)] h (fun r2 h1 => cI wdC (d - 1) mX3_placeOfTurn [.inr (.inr 1), .inl r2] h1 (fun r4 h3 => (inI r4) ∧ (0 ≤ r4 → gI wdC d mX3_isEven 15 [some (.inr (.inr 1)), some (.inl (x1 + 1))] h3 Q) ∧ (r4 < 0 → Q 0 h3))))) :
    gI wdC d mX3_isEven 15 [some (.inr (.inr 1)), some (.inl x1)] h Q := by
  unfold gI
  refine x_iload_n (pc := 15) (show decode mX3_isEven.2.1 15 = .ok (.iload_n 1, 1) by decide +kernel) rfl rfl ?_
  refine x_aload_n (pc := 16) (show decode mX3_isEven.2.1 16 = .ok (.aload_n 0, 1) by decide +kernel) rfl rfl ?_
  refine x_getI (pc := 17) (ki := 6) f3_31 rfl rfl (by decide) rfl (show decode mX3_isEven.2.1 17 = .ok (.getfield 31, 3) by decide +kernel) ?_
  obtain ⟨hg, hR⟩ := hR
  refine x_icmp_ge (pc := 20) (tgt := 48) (show decode mX3_isEven.2.1 20 = .ok (.if_icmp .ge 28, 3) by decide +kernel) (by decide) ⟨hg.1, hg.2⟩ (fun hc => ?_) (fun hc => ?_)
  · replace hR := hR.1 hc
    refine x_iconst (pc := 48) (n := 0) (show decode mX3_isEven.2.1 48 = .ok (.iconst 0, 1) by decide +kernel) ?_
    refine x_istore_n (pc := 49) (ls' := [some (.inr (.inr 1)), some (.inl 0)]) (show decode mX3_isEven.2.1 49 = .ok (.istore_n 1, 1) by decide +kernel) rfl (by decide) rfl ?_
    exact hR
  · replace hR := hR.2 hc
    refine x_aload_n (pc := 23) (show decode mX3_isEven.2.1 23 = .ok (.aload_n 0, 1) by decide +kernel) rfl rfl ?_
    refine x_aload_n (pc := 24) (show decode mX3_isEven.2.1 24 = .ok (.aload_n 0, 1) by decide +kernel) rfl rfl ?_
    refine x_aload_n (pc := 25) (show decode mX3_isEven.2.1 25 = .ok (.aload_n 0, 1) by decide +kernel) rfl rfl ?_
    refine x_getR (pc := 26) f3_34 rfl rfl (show decode mX3_isEven.2.1 26 = .ok (.getfield 34, 3) by decide +kernel) ?_
    refine x_iload_n (pc := 29) (show decode mX3_isEven.2.1 29 = .ok (.iload_n 1, 1) by decide +kernel) rfl rfl ?_
    obtain ⟨hg, hR⟩ := hR
    refine x_iald (pc := 30) rfl (by decide) hg (show decode mX3_isEven.2.1 30 = .ok (.iaload, 1) by decide +kernel) ?_
    refine x_callV (pc := 31) (As := [.inl (h 5 x1)]) (rest := [.inr (.inr 1)]) (lk3_84 rfl) im_X3_flippedTurn sl_X3_flippedTurn rfl rfl rfl (Nat.le_of_ble_eq_true rfl) (Nat.le_of_ble_eq_true rfl) (show decode mX3_isEven.2.1 31 = .ok (.invokevirtual 84, 3) by decide +kernel) hd hR (fun r9 h1 hq => ?_)
    obtain ⟨r2, rfl, hR⟩ := hq
    show xG _ _ _ 34 _ [.inl r2, .inr (.inr 1)] _ _
    refine x_callV (pc := 34) (As := [.inl r2]) (rest := []) (lk3_53 rfl) im_X3_placeOfTurn sl_X3_placeOfTurn rfl rfl rfl (Nat.le_of_ble_eq_true rfl) (Nat.le_of_ble_eq_true rfl) (show decode mX3_isEven.2.1 34 = .ok (.invokevirtual 53, 3) by decide +kernel) hd hR (fun r9 h3 hq => ?_)
    obtain ⟨r4, rfl, hR⟩ := hq
    show xG _ _ _ 37 _ [.inl r4] _ _
    obtain ⟨hg, hR⟩ := hR
    refine x_if_ge (pc := 37) (tgt := 42) (show decode mX3_isEven.2.1 37 = .ok (.ifCond .ge 5, 3) by decide +kernel) (by decide) hg (fun hc => ?_) (fun hc => ?_)
    · replace hR := hR.1 hc
      refine x_iinc (pc := 42) (ls' := [some (.inr (.inr 1)), some (.inl (x1 + 1))]) (show decode mX3_isEven.2.1 42 = .ok (.iinc 1 1, 3) by decide +kernel) (by decide) rfl rfl ?_
      refine x_goto (pc := 45) (tgt := 15) (show decode mX3_isEven.2.1 45 = .ok (.goto (-30), 3) by decide +kernel) (by decide) ?_
      exact hR
    · replace hR := hR.2 hc
      refine x_iconst (pc := 40) (n := 0) (show decode mX3_isEven.2.1 40 = .ok (.iconst 0, 1) by decide +kernel) ?_
      exact x_zret (pc := 41) rfl (show decode mX3_isEven.2.1 41 = .ok (.ireturn, 1) by decide +kernel) (by decide) ⟨_, rfl, hR⟩
set_option maxRecDepth 4000 in
theorem sg_X3_isEven_50 {d : Nat} {x1 : Int} {h : xH} {Q : Int → xH → Prop} (hd : 1 ≤ d)
    (hR : (inI x1 ∧ inI (h 1 2)) ∧ ((h 1 2) ≤ x1 → Q 1 h) ∧ (x1 < (h 1 2) → (0 ≤ x1 ∧ x1 < 30) ∧ (0 ≤ x1 ∧ x1 < 30) ∧ (0 ≤ x1 ∧ x1 < 30) ∧ cB wdC (d - 1) mX3_hasLike [.inr (.inr 1), .inl (h 2 x1), .inl (((h 1 0) - 2) - (h 3 x1)), .inl (h 4 x1)] h (fun h1 => gI wdC d mX3_isEven 50 [some (.inr (.inr 1)), some (.inl (x1 + 1))] h1 Q) (fun h1 => Q 0 h1))) :
    gI wdC d mX3_isEven 50 [some (.inr (.inr 1)), some (.inl x1)] h Q := by
  unfold gI
  refine x_iload_n (pc := 50) (show decode mX3_isEven.2.1 50 = .ok (.iload_n 1, 1) by decide +kernel) rfl rfl ?_
  refine x_aload_n (pc := 51) (show decode mX3_isEven.2.1 51 = .ok (.aload_n 0, 1) by decide +kernel) rfl rfl ?_
  refine x_getI (pc := 52) (ki := 2) f3_18 rfl rfl (by decide) rfl (show decode mX3_isEven.2.1 52 = .ok (.getfield 18, 3) by decide +kernel) ?_
  obtain ⟨hg, hR⟩ := hR
  refine x_icmp_ge (pc := 55) (tgt := 98) (show decode mX3_isEven.2.1 55 = .ok (.if_icmp .ge 43, 3) by decide +kernel) (by decide) ⟨hg.1, hg.2⟩ (fun hc => ?_) (fun hc => ?_)
  · replace hR := hR.1 hc
    refine x_iconst (pc := 98) (n := 1) (show decode mX3_isEven.2.1 98 = .ok (.iconst 1, 1) by decide +kernel) ?_
    exact x_zret (pc := 99) rfl (show decode mX3_isEven.2.1 99 = .ok (.ireturn, 1) by decide +kernel) (by decide) ⟨_, rfl, hR⟩
  · replace hR := hR.2 hc
    refine x_aload_n (pc := 58) (show decode mX3_isEven.2.1 58 = .ok (.aload_n 0, 1) by decide +kernel) rfl rfl ?_
    refine x_aload_n (pc := 59) (show decode mX3_isEven.2.1 59 = .ok (.aload_n 0, 1) by decide +kernel) rfl rfl ?_
    refine x_getR (pc := 60) f3_21 rfl rfl (show decode mX3_isEven.2.1 60 = .ok (.getfield 21, 3) by decide +kernel) ?_
    refine x_iload_n (pc := 63) (show decode mX3_isEven.2.1 63 = .ok (.iload_n 1, 1) by decide +kernel) rfl rfl ?_
    obtain ⟨hg, hR⟩ := hR
    refine x_iald (pc := 64) rfl (by decide) hg (show decode mX3_isEven.2.1 64 = .ok (.iaload, 1) by decide +kernel) ?_
    refine x_aload_n (pc := 65) (show decode mX3_isEven.2.1 65 = .ok (.aload_n 0, 1) by decide +kernel) rfl rfl ?_
    refine x_getI (pc := 66) (ki := 0) f3_9 rfl rfl (by decide) rfl (show decode mX3_isEven.2.1 66 = .ok (.getfield 9, 3) by decide +kernel) ?_
    refine x_iconst (pc := 69) (n := 2) (show decode mX3_isEven.2.1 69 = .ok (.iconst 2, 1) by decide +kernel) ?_
    refine x_isub (pc := 70) (show decode mX3_isEven.2.1 70 = .ok (.isub, 1) by decide +kernel) ?_
    refine x_aload_n (pc := 71) (show decode mX3_isEven.2.1 71 = .ok (.aload_n 0, 1) by decide +kernel) rfl rfl ?_
    refine x_getR (pc := 72) f3_25 rfl rfl (show decode mX3_isEven.2.1 72 = .ok (.getfield 25, 3) by decide +kernel) ?_
    refine x_iload_n (pc := 75) (show decode mX3_isEven.2.1 75 = .ok (.iload_n 1, 1) by decide +kernel) rfl rfl ?_
    obtain ⟨hg, hR⟩ := hR
    refine x_iald (pc := 76) rfl (by decide) hg (show decode mX3_isEven.2.1 76 = .ok (.iaload, 1) by decide +kernel) ?_
    refine x_isub (pc := 77) (show decode mX3_isEven.2.1 77 = .ok (.isub, 1) by decide +kernel) ?_
    refine x_aload_n (pc := 78) (show decode mX3_isEven.2.1 78 = .ok (.aload_n 0, 1) by decide +kernel) rfl rfl ?_
    refine x_getR (pc := 79) f3_28 rfl rfl (show decode mX3_isEven.2.1 79 = .ok (.getfield 28, 3) by decide +kernel) ?_
    refine x_iload_n (pc := 82) (show decode mX3_isEven.2.1 82 = .ok (.iload_n 1, 1) by decide +kernel) rfl rfl ?_
    obtain ⟨hg, hR⟩ := hR
    refine x_iald (pc := 83) rfl (by decide) hg (show decode mX3_isEven.2.1 83 = .ok (.iaload, 1) by decide +kernel) ?_
    refine x_callV (pc := 84) (As := [.inl (h 2 x1), .inl (((h 1 0) - 2) - (h 3 x1)), .inl (h 4 x1)]) (rest := []) (lk3_91 rfl) im_X3_hasLike sl_X3_hasLike rfl rfl rfl (Nat.le_of_ble_eq_true rfl) (Nat.le_of_ble_eq_true rfl) (show decode mX3_isEven.2.1 84 = .ok (.invokevirtual 91, 3) by decide +kernel) hd hR (fun r9 h1 hq => ?_)
    obtain ⟨r8, rfl, hq⟩ := hq
    rcases hq with ⟨rfl, hR⟩ | ⟨rfl, hR⟩
    · show xG _ _ _ 87 _ [.inl 1] _ _
      refine x_if_ne (pc := 87) (tgt := 92) (show decode mX3_isEven.2.1 87 = .ok (.ifCond .ne 5, 3) by decide +kernel) (by decide) (by unfold inI; decide) (fun _ => ?_) (fun hc => absurd hc (by decide))
      refine x_iinc (pc := 92) (ls' := [some (.inr (.inr 1)), some (.inl (x1 + 1))]) (show decode mX3_isEven.2.1 92 = .ok (.iinc 1 1, 3) by decide +kernel) (by decide) rfl rfl ?_
      refine x_goto (pc := 95) (tgt := 50) (show decode mX3_isEven.2.1 95 = .ok (.goto (-45), 3) by decide +kernel) (by decide) ?_
      exact hR
    · show xG _ _ _ 87 _ [.inl 0] _ _
      refine x_if_ne (pc := 87) (tgt := 92) (show decode mX3_isEven.2.1 87 = .ok (.ifCond .ne 5, 3) by decide +kernel) (by decide) (by unfold inI; decide) (fun hc => absurd hc (by decide)) (fun _ => ?_)
      refine x_iconst (pc := 90) (n := 0) (show decode mX3_isEven.2.1 90 = .ok (.iconst 0, 1) by decide +kernel) ?_
      exact x_zret (pc := 91) rfl (show decode mX3_isEven.2.1 91 = .ok (.ireturn, 1) by decide +kernel) (by decide) ⟨_, rfl, hR⟩
set_option maxRecDepth 4000 in
theorem sg_X3_hasLike_0 {d : Nat} {x1 x2 x3 : Int} {h : xH} {Q : Int → xH → Prop}
    (hR : gI wdC d mX3_hasLike 3 [some (.inr (.inr 1)), some (.inl x1), some (.inl x2), some (.inl x3), some (.inl 0)] h Q) :
    gI wdC d mX3_hasLike 0 [some (.inr (.inr 1)), some (.inl x1), some (.inl x2), some (.inl x3), none] h Q := by
  unfold gI
  refine x_iconst (pc := 0) (n := 0) (show decode mX3_hasLike.2.1 0 = .ok (.iconst 0, 1) by decide +kernel) ?_
  refine x_istore (pc := 1) (ls' := [some (.inr (.inr 1)), some (.inl x1), some (.inl x2), some (.inl x3), some (.inl 0)]) (show decode mX3_hasLike.2.1 1 = .ok (.istore 4, 2) by decide +kernel) (by decide) rfl ?_
  exact hR
set_option maxRecDepth 4000 in
theorem sg_X3_hasLike_3 {d : Nat} {x1 x2 x3 x4 : Int} {h : xH} {Q : Int → xH → Prop}
    (hR : (inI x4 ∧ inI (h 1 2)) ∧ ((h 1 2) ≤ x4 → Q 0 h) ∧ (x4 < (h 1 2) → (0 ≤ x4 ∧ x4 < 30) ∧ (inI (h 2 x4) ∧ inI x1) ∧ (¬ (h 2 x4) = x1 → gI wdC d mX3_hasLike 3 [some (.inr (.inr 1)), some (.inl x1), some (.inl x2), some (.inl x3), some (.inl (x4 + 1))] h Q) ∧ ((h 2 x4) = x1 → (0 ≤ x4 ∧ x4 < 30) ∧ (inI (h 3 x4) ∧ inI x2) ∧ (¬ (h 3 x4) = x2 → gI wdC d mX3_hasLike 3 [some (.inr (.inr 1)), some (.inl x1), some (.inl x2), some (.inl x3), some (.inl (x4 + 1))] h Q) ∧ ((h 3 x4) = x2 → (0 ≤ x4 ∧ x4 < 30) ∧ (inI (h 4 x4) ∧ inI x3) ∧ (¬ (h 4 x4) = x3 → gI wdC d mX3_hasLike 3 [some (.inr (.inr 1)), some (.inl x1), some (.inl x2), some (.inl x3), some (.inl (x4 + 1))] h Q) ∧ ((h 4 x4) = x3 → Q 1 h))))) :
    gI wdC d mX3_hasLike 3 [some (.inr (.inr 1)), some (.inl x1), some (.inl x2), some (.inl x3), some (.inl x4)] h Q := by
  unfold gI
  refine x_iload (pc := 3) (show decode mX3_hasLike.2.1 3 = .ok (.iload 4, 2) by decide +kernel) rfl ?_
  refine x_aload_n (pc := 5) (show decode mX3_hasLike.2.1 5 = .ok (.aload_n 0, 1) by decide +kernel) rfl rfl ?_
  refine x_getI (pc := 6) (ki := 2) f3_18 rfl rfl (by decide) rfl (show decode mX3_hasLike.2.1 6 = .ok (.getfield 18, 3) by decide +kernel) ?_
  obtain ⟨hg, hR⟩ := hR
  refine x_icmp_ge (pc := 9) (tgt := 53) (show decode mX3_hasLike.2.1 9 = .ok (.if_icmp .ge 44, 3) by decide +kernel) (by decide) ⟨hg.1, hg.2⟩ (fun hc => ?_) (fun hc => ?_)
  · replace hR := hR.1 hc
    refine x_iconst (pc := 53) (n := 0) (show decode mX3_hasLike.2.1 53 = .ok (.iconst 0, 1) by decide +kernel) ?_
    exact x_zret (pc := 54) rfl (show decode mX3_hasLike.2.1 54 = .ok (.ireturn, 1) by decide +kernel) (by decide) ⟨_, rfl, hR⟩
  · replace hR := hR.2 hc
    refine x_aload_n (pc := 12) (show decode mX3_hasLike.2.1 12 = .ok (.aload_n 0, 1) by decide +kernel) rfl rfl ?_
    refine x_getR (pc := 13) f3_21 rfl rfl (show decode mX3_hasLike.2.1 13 = .ok (.getfield 21, 3) by decide +kernel) ?_
    refine x_iload (pc := 16) (show decode mX3_hasLike.2.1 16 = .ok (.iload 4, 2) by decide +kernel) rfl ?_
    obtain ⟨hg, hR⟩ := hR
    refine x_iald (pc := 18) rfl (by decide) hg (show decode mX3_hasLike.2.1 18 = .ok (.iaload, 1) by decide +kernel) ?_
    refine x_iload_n (pc := 19) (show decode mX3_hasLike.2.1 19 = .ok (.iload_n 1, 1) by decide +kernel) rfl rfl ?_
    obtain ⟨hg, hR⟩ := hR
    refine x_icmp_ne (pc := 20) (tgt := 47) (show decode mX3_hasLike.2.1 20 = .ok (.if_icmp .ne 27, 3) by decide +kernel) (by decide) ⟨hg.1, hg.2⟩ (fun hc => ?_) (fun hc => ?_)
    · replace hR := hR.1 hc
      refine x_iinc (pc := 47) (ls' := [some (.inr (.inr 1)), some (.inl x1), some (.inl x2), some (.inl x3), some (.inl (x4 + 1))]) (show decode mX3_hasLike.2.1 47 = .ok (.iinc 4 1, 3) by decide +kernel) (by decide) rfl rfl ?_
      refine x_goto (pc := 50) (tgt := 3) (show decode mX3_hasLike.2.1 50 = .ok (.goto (-47), 3) by decide +kernel) (by decide) ?_
      exact hR
    · replace hR := hR.2 hc
      refine x_aload_n (pc := 23) (show decode mX3_hasLike.2.1 23 = .ok (.aload_n 0, 1) by decide +kernel) rfl rfl ?_
      refine x_getR (pc := 24) f3_25 rfl rfl (show decode mX3_hasLike.2.1 24 = .ok (.getfield 25, 3) by decide +kernel) ?_
      refine x_iload (pc := 27) (show decode mX3_hasLike.2.1 27 = .ok (.iload 4, 2) by decide +kernel) rfl ?_
      obtain ⟨hg, hR⟩ := hR
      refine x_iald (pc := 29) rfl (by decide) hg (show decode mX3_hasLike.2.1 29 = .ok (.iaload, 1) by decide +kernel) ?_
      refine x_iload_n (pc := 30) (show decode mX3_hasLike.2.1 30 = .ok (.iload_n 2, 1) by decide +kernel) rfl rfl ?_
      obtain ⟨hg, hR⟩ := hR
      refine x_icmp_ne (pc := 31) (tgt := 47) (show decode mX3_hasLike.2.1 31 = .ok (.if_icmp .ne 16, 3) by decide +kernel) (by decide) ⟨hg.1, hg.2⟩ (fun hc => ?_) (fun hc => ?_)
      · replace hR := hR.1 hc
        refine x_iinc (pc := 47) (ls' := [some (.inr (.inr 1)), some (.inl x1), some (.inl x2), some (.inl x3), some (.inl (x4 + 1))]) (show decode mX3_hasLike.2.1 47 = .ok (.iinc 4 1, 3) by decide +kernel) (by decide) rfl rfl ?_
        refine x_goto (pc := 50) (tgt := 3) (show decode mX3_hasLike.2.1 50 = .ok (.goto (-47), 3) by decide +kernel) (by decide) ?_
        exact hR
      · replace hR := hR.2 hc
        refine x_aload_n (pc := 34) (show decode mX3_hasLike.2.1 34 = .ok (.aload_n 0, 1) by decide +kernel) rfl rfl ?_
        refine x_getR (pc := 35) f3_28 rfl rfl (show decode mX3_hasLike.2.1 35 = .ok (.getfield 28, 3) by decide +kernel) ?_
        refine x_iload (pc := 38) (show decode mX3_hasLike.2.1 38 = .ok (.iload 4, 2) by decide +kernel) rfl ?_
        obtain ⟨hg, hR⟩ := hR
        refine x_iald (pc := 40) rfl (by decide) hg (show decode mX3_hasLike.2.1 40 = .ok (.iaload, 1) by decide +kernel) ?_
        refine x_iload_n (pc := 41) (show decode mX3_hasLike.2.1 41 = .ok (.iload_n 3, 1) by decide +kernel) rfl rfl ?_
        obtain ⟨hg, hR⟩ := hR
        refine x_icmp_ne (pc := 42) (tgt := 47) (show decode mX3_hasLike.2.1 42 = .ok (.if_icmp .ne 5, 3) by decide +kernel) (by decide) ⟨hg.1, hg.2⟩ (fun hc => ?_) (fun hc => ?_)
        · replace hR := hR.1 hc
          refine x_iinc (pc := 47) (ls' := [some (.inr (.inr 1)), some (.inl x1), some (.inl x2), some (.inl x3), some (.inl (x4 + 1))]) (show decode mX3_hasLike.2.1 47 = .ok (.iinc 4 1, 3) by decide +kernel) (by decide) rfl rfl ?_
          refine x_goto (pc := 50) (tgt := 3) (show decode mX3_hasLike.2.1 50 = .ok (.goto (-47), 3) by decide +kernel) (by decide) ?_
          exact hR
        · replace hR := hR.2 hc
          refine x_iconst (pc := 45) (n := 1) (show decode mX3_hasLike.2.1 45 = .ok (.iconst 1, 1) by decide +kernel) ?_
          exact x_zret (pc := 46) rfl (show decode mX3_hasLike.2.1 46 = .ok (.ireturn, 1) by decide +kernel) (by decide) ⟨_, rfl, hR⟩
set_option maxRecDepth 4000 in
theorem sg_X4_isList_0 {d : Nat} {x1 : Int} {h : xH} {Q : Int → xH → Prop}
    (hR : (inI x1) ∧ (x1 < 0 → Q 0 h) ∧ (0 ≤ x1 → (inI x1) ∧ (4 ≤ x1 → Q 0 h) ∧ (x1 < 4 → Q 1 h))) :
    gI wdC d mX4_isList 0 [some (.inr (.inr 50)), some (.inl x1)] h Q := by
  unfold gI
  refine x_iload_n (pc := 0) (show decode mX4_isList.2.1 0 = .ok (.iload_n 1, 1) by decide +kernel) rfl rfl ?_
  obtain ⟨hg, hR⟩ := hR
  refine x_if_lt (pc := 1) (tgt := 13) (show decode mX4_isList.2.1 1 = .ok (.ifCond .lt 12, 3) by decide +kernel) (by decide) hg (fun hc => ?_) (fun hc => ?_)
  · replace hR := hR.1 hc
    refine x_iconst (pc := 13) (n := 0) (show decode mX4_isList.2.1 13 = .ok (.iconst 0, 1) by decide +kernel) ?_
    exact x_zret (pc := 14) rfl (show decode mX4_isList.2.1 14 = .ok (.ireturn, 1) by decide +kernel) (by decide) ⟨_, rfl, hR⟩
  · replace hR := hR.2 hc
    refine x_iload_n (pc := 4) (show decode mX4_isList.2.1 4 = .ok (.iload_n 1, 1) by decide +kernel) rfl rfl ?_
    refine x_iconst (pc := 5) (n := 4) (show decode mX4_isList.2.1 5 = .ok (.iconst 4, 1) by decide +kernel) ?_
    obtain ⟨hg, hR⟩ := hR
    refine x_icmp_ge (pc := 6) (tgt := 13) (show decode mX4_isList.2.1 6 = .ok (.if_icmp .ge 7, 3) by decide +kernel) (by decide) ⟨hg, (by unfold inI; decide)⟩ (fun hc => ?_) (fun hc => ?_)
    · replace hR := hR.1 hc
      refine x_iconst (pc := 13) (n := 0) (show decode mX4_isList.2.1 13 = .ok (.iconst 0, 1) by decide +kernel) ?_
      exact x_zret (pc := 14) rfl (show decode mX4_isList.2.1 14 = .ok (.ireturn, 1) by decide +kernel) (by decide) ⟨_, rfl, hR⟩
    · replace hR := hR.2 hc
      refine x_iconst (pc := 9) (n := 1) (show decode mX4_isList.2.1 9 = .ok (.iconst 1, 1) by decide +kernel) ?_
      refine x_goto (pc := 10) (tgt := 14) (show decode mX4_isList.2.1 10 = .ok (.goto 4, 3) by decide +kernel) (by decide) ?_
      exact x_zret (pc := 14) rfl (show decode mX4_isList.2.1 14 = .ok (.ireturn, 1) by decide +kernel) (by decide) ⟨_, rfl, hR⟩
set_option maxRecDepth 4000 in
theorem sg_X4_holds_0 {d : Nat} {x1 : Int} {h : xH} {Q : Int → xH → Prop}
    (hR : (0 ≤ x1 ∧ x1 < 4) ∧ (inI (h 51 x1)) ∧ ((h 51 x1) = (-1) → Q 0 h) ∧ (¬ (h 51 x1) = (-1) → Q 1 h)) :
    gI wdC d mX4_holds 0 [some (.inr (.inr 50)), some (.inl x1)] h Q := by
  unfold gI
  refine x_aload_n (pc := 0) (show decode mX4_holds.2.1 0 = .ok (.aload_n 0, 1) by decide +kernel) rfl rfl ?_
  refine x_getR (pc := 1) f4_11 rfl rfl (show decode mX4_holds.2.1 1 = .ok (.getfield 11, 3) by decide +kernel) ?_
  refine x_iload_n (pc := 4) (show decode mX4_holds.2.1 4 = .ok (.iload_n 1, 1) by decide +kernel) rfl rfl ?_
  obtain ⟨hg, hR⟩ := hR
  refine x_iald (pc := 5) rfl (by decide) hg (show decode mX4_holds.2.1 5 = .ok (.iaload, 1) by decide +kernel) ?_
  refine x_iconst (pc := 6) (n := (-1)) (show decode mX4_holds.2.1 6 = .ok (.iconst (-1), 1) by decide +kernel) ?_
  obtain ⟨hg, hR⟩ := hR
  refine x_icmp_eq (pc := 7) (tgt := 14) (show decode mX4_holds.2.1 7 = .ok (.if_icmp .eq 7, 3) by decide +kernel) (by decide) ⟨hg, (by unfold inI; decide)⟩ (fun hc => ?_) (fun hc => ?_)
  · replace hR := hR.1 hc
    refine x_iconst (pc := 14) (n := 0) (show decode mX4_holds.2.1 14 = .ok (.iconst 0, 1) by decide +kernel) ?_
    exact x_zret (pc := 15) rfl (show decode mX4_holds.2.1 15 = .ok (.ireturn, 1) by decide +kernel) (by decide) ⟨_, rfl, hR⟩
  · replace hR := hR.2 hc
    refine x_iconst (pc := 10) (n := 1) (show decode mX4_holds.2.1 10 = .ok (.iconst 1, 1) by decide +kernel) ?_
    refine x_goto (pc := 11) (tgt := 15) (show decode mX4_holds.2.1 11 = .ok (.goto 4, 3) by decide +kernel) (by decide) ?_
    exact x_zret (pc := 15) rfl (show decode mX4_holds.2.1 15 = .ok (.ireturn, 1) by decide +kernel) (by decide) ⟨_, rfl, hR⟩
set_option maxRecDepth 4000 in
theorem sg_X4_hasPlace_0 {d : Nat} {x1 x2 : Int} {h : xH} {Q : Int → xH → Prop}
    (hR : (inI x2) ∧ (x2 < 0 → Q 0 h) ∧ (0 ≤ x2 → (0 ≤ x1 ∧ x1 < 4) ∧ (inI x2 ∧ inI (h 51 x1)) ∧ ((h 51 x1) ≤ x2 → Q 0 h) ∧ (x2 < (h 51 x1) → Q 1 h))) :
    gI wdC d mX4_hasPlace 0 [some (.inr (.inr 50)), some (.inl x1), some (.inl x2)] h Q := by
  unfold gI
  refine x_iload_n (pc := 0) (show decode mX4_hasPlace.2.1 0 = .ok (.iload_n 2, 1) by decide +kernel) rfl rfl ?_
  obtain ⟨hg, hR⟩ := hR
  refine x_if_lt (pc := 1) (tgt := 18) (show decode mX4_hasPlace.2.1 1 = .ok (.ifCond .lt 17, 3) by decide +kernel) (by decide) hg (fun hc => ?_) (fun hc => ?_)
  · replace hR := hR.1 hc
    refine x_iconst (pc := 18) (n := 0) (show decode mX4_hasPlace.2.1 18 = .ok (.iconst 0, 1) by decide +kernel) ?_
    exact x_zret (pc := 19) rfl (show decode mX4_hasPlace.2.1 19 = .ok (.ireturn, 1) by decide +kernel) (by decide) ⟨_, rfl, hR⟩
  · replace hR := hR.2 hc
    refine x_iload_n (pc := 4) (show decode mX4_hasPlace.2.1 4 = .ok (.iload_n 2, 1) by decide +kernel) rfl rfl ?_
    refine x_aload_n (pc := 5) (show decode mX4_hasPlace.2.1 5 = .ok (.aload_n 0, 1) by decide +kernel) rfl rfl ?_
    refine x_getR (pc := 6) f4_11 rfl rfl (show decode mX4_hasPlace.2.1 6 = .ok (.getfield 11, 3) by decide +kernel) ?_
    refine x_iload_n (pc := 9) (show decode mX4_hasPlace.2.1 9 = .ok (.iload_n 1, 1) by decide +kernel) rfl rfl ?_
    obtain ⟨hg, hR⟩ := hR
    refine x_iald (pc := 10) rfl (by decide) hg (show decode mX4_hasPlace.2.1 10 = .ok (.iaload, 1) by decide +kernel) ?_
    obtain ⟨hg, hR⟩ := hR
    refine x_icmp_ge (pc := 11) (tgt := 18) (show decode mX4_hasPlace.2.1 11 = .ok (.if_icmp .ge 7, 3) by decide +kernel) (by decide) ⟨hg.1, hg.2⟩ (fun hc => ?_) (fun hc => ?_)
    · replace hR := hR.1 hc
      refine x_iconst (pc := 18) (n := 0) (show decode mX4_hasPlace.2.1 18 = .ok (.iconst 0, 1) by decide +kernel) ?_
      exact x_zret (pc := 19) rfl (show decode mX4_hasPlace.2.1 19 = .ok (.ireturn, 1) by decide +kernel) (by decide) ⟨_, rfl, hR⟩
    · replace hR := hR.2 hc
      refine x_iconst (pc := 14) (n := 1) (show decode mX4_hasPlace.2.1 14 = .ok (.iconst 1, 1) by decide +kernel) ?_
      refine x_goto (pc := 15) (tgt := 19) (show decode mX4_hasPlace.2.1 15 = .ok (.goto 4, 3) by decide +kernel) (by decide) ?_
      exact x_zret (pc := 19) rfl (show decode mX4_hasPlace.2.1 19 = .ok (.ireturn, 1) by decide +kernel) (by decide) ⟨_, rfl, hR⟩
set_option maxRecDepth 4000 in
theorem sg_X4_begin_0 {d : Nat} {x1 x2 : Int} {h : xH} {Q : xH → Prop}
    (hR : (0 ≤ x1 ∧ x1 < 4) ∧ gV wdC d mX4_begin 9 [some (.inr (.inr 50)), some (.inl x1), some (.inl x2), some (.inl 0)] (xu h 51 x1 x2) Q) :
    gV wdC d mX4_begin 0 [some (.inr (.inr 50)), some (.inl x1), some (.inl x2), none] h Q := by
  unfold gV
  refine x_aload_n (pc := 0) (show decode mX4_begin.2.1 0 = .ok (.aload_n 0, 1) by decide +kernel) rfl rfl ?_
  refine x_getR (pc := 1) f4_11 rfl rfl (show decode mX4_begin.2.1 1 = .ok (.getfield 11, 3) by decide +kernel) ?_
  refine x_iload_n (pc := 4) (show decode mX4_begin.2.1 4 = .ok (.iload_n 1, 1) by decide +kernel) rfl rfl ?_
  refine x_iload_n (pc := 5) (show decode mX4_begin.2.1 5 = .ok (.iload_n 2, 1) by decide +kernel) rfl rfl ?_
  obtain ⟨hg, hR⟩ := hR
  refine x_iast (pc := 6) rfl (by decide) hg (show decode mX4_begin.2.1 6 = .ok (.iastore, 1) by decide +kernel) ?_
  refine x_iconst (pc := 7) (n := 0) (show decode mX4_begin.2.1 7 = .ok (.iconst 0, 1) by decide +kernel) ?_
  refine x_istore_n (pc := 8) (ls' := [some (.inr (.inr 50)), some (.inl x1), some (.inl x2), some (.inl 0)]) (show decode mX4_begin.2.1 8 = .ok (.istore_n 3, 1) by decide +kernel) rfl (by decide) rfl ?_
  exact hR
set_option maxRecDepth 4000 in
theorem sg_X4_begin_9 {d : Nat} {x1 x2 x3 : Int} {h : xH} {Q : xH → Prop} (hd : 1 ≤ d)
    (hR : (inI x3 ∧ inI x2) ∧ (x2 ≤ x3 → Q h) ∧ (x3 < x2 → cV wdC (d - 1) mX4_put [.inr (.inr 50), .inl x1, .inl x3, .inr (.inl 0)] h (fun h1 => gV wdC d mX4_begin 9 [some (.inr (.inr 50)), some (.inl x1), some (.inl x2), some (.inl (x3 + 1))] h1 Q))) :
    gV wdC d mX4_begin 9 [some (.inr (.inr 50)), some (.inl x1), some (.inl x2), some (.inl x3)] h Q := by
  unfold gV
  refine x_iload_n (pc := 9) (show decode mX4_begin.2.1 9 = .ok (.iload_n 3, 1) by decide +kernel) rfl rfl ?_
  refine x_iload_n (pc := 10) (show decode mX4_begin.2.1 10 = .ok (.iload_n 2, 1) by decide +kernel) rfl rfl ?_
  obtain ⟨hg, hR⟩ := hR
  refine x_icmp_ge (pc := 11) (tgt := 27) (show decode mX4_begin.2.1 11 = .ok (.if_icmp .ge 16, 3) by decide +kernel) (by decide) ⟨hg.1, hg.2⟩ (fun hc => ?_) (fun hc => ?_)
  · replace hR := hR.1 hc
    exact x_vret (pc := 27) rfl (show decode mX4_begin.2.1 27 = .ok (.return_, 1) by decide +kernel) ⟨rfl, hR⟩
  · replace hR := hR.2 hc
    refine x_aload_n (pc := 14) (show decode mX4_begin.2.1 14 = .ok (.aload_n 0, 1) by decide +kernel) rfl rfl ?_
    refine x_iload_n (pc := 15) (show decode mX4_begin.2.1 15 = .ok (.iload_n 1, 1) by decide +kernel) rfl rfl ?_
    refine x_iload_n (pc := 16) (show decode mX4_begin.2.1 16 = .ok (.iload_n 3, 1) by decide +kernel) rfl rfl ?_
    refine x_lconst (pc := 17) (v := 0) (show decode mX4_begin.2.1 17 = .ok (.lconst 0, 1) by decide +kernel) rfl ?_
    refine x_callV (pc := 18) (As := [.inl x1, .inl x3, .inr (.inl 0)]) (rest := []) (lk4_19 rfl) im_X4_put sl_X4_put rfl rfl rfl (Nat.le_of_ble_eq_true rfl) (Nat.le_of_ble_eq_true rfl) (show decode mX4_begin.2.1 18 = .ok (.invokevirtual 19, 3) by decide +kernel) hd hR (fun r9 h1 hq => ?_)
    obtain ⟨rfl, hR⟩ := hq
    show xG _ _ _ 21 _ [] _ _
    refine x_iinc (pc := 21) (ls' := [some (.inr (.inr 50)), some (.inl x1), some (.inl x2), some (.inl (x3 + 1))]) (show decode mX4_begin.2.1 21 = .ok (.iinc 3 1, 3) by decide +kernel) (by decide) rfl rfl ?_
    refine x_goto (pc := 24) (tgt := 9) (show decode mX4_begin.2.1 24 = .ok (.goto (-15), 3) by decide +kernel) (by decide) ?_
    exact hR
set_option maxRecDepth 4000 in
theorem sg_X4_put_0 {d : Nat} {x1 x2 x3 : Int} {h : xH} {Q : xH → Prop}
    (hR : (0 ≤ ((x1 * 30) + x2) ∧ ((x1 * 30) + x2) < 120) ∧ Q (xu h 52 ((x1 * 30) + x2) x3)) :
    gV wdC d mX4_put 0 [some (.inr (.inr 50)), some (.inl x1), some (.inl x2), some (.inr (.inl x3)), none] h Q := by
  unfold gV
  refine x_aload_n (pc := 0) (show decode mX4_put.2.1 0 = .ok (.aload_n 0, 1) by decide +kernel) rfl rfl ?_
  refine x_getR (pc := 1) f4_15 rfl rfl (show decode mX4_put.2.1 1 = .ok (.getfield 15, 3) by decide +kernel) ?_
  refine x_iload_n (pc := 4) (show decode mX4_put.2.1 4 = .ok (.iload_n 1, 1) by decide +kernel) rfl rfl ?_
  refine x_bipush (pc := 5) (n := 30) (show decode mX4_put.2.1 5 = .ok (.bipush 30, 2) by decide +kernel) rfl ?_
  refine x_imul (pc := 7) (show decode mX4_put.2.1 7 = .ok (.imul, 1) by decide +kernel) ?_
  refine x_iload_n (pc := 8) (show decode mX4_put.2.1 8 = .ok (.iload_n 2, 1) by decide +kernel) rfl rfl ?_
  refine x_iadd (pc := 9) (show decode mX4_put.2.1 9 = .ok (.iadd, 1) by decide +kernel) ?_
  refine x_lload_n (pc := 10) (show decode mX4_put.2.1 10 = .ok (.lload_n 3, 1) by decide +kernel) rfl rfl ?_
  obtain ⟨hg, hR⟩ := hR
  refine x_last (pc := 11) rfl (by decide) hg (show decode mX4_put.2.1 11 = .ok (.lastore, 1) by decide +kernel) ?_
  exact x_vret (pc := 12) rfl (show decode mX4_put.2.1 12 = .ok (.return_, 1) by decide +kernel) ⟨rfl, hR⟩
set_option maxRecDepth 4000 in
theorem sg_X4_at_0 {d : Nat} {x1 x2 : Int} {h : xH} {Q : Int → xH → Prop}
    (hR : (0 ≤ ((x1 * 30) + x2) ∧ ((x1 * 30) + x2) < 120) ∧ Q (h 52 ((x1 * 30) + x2)) h) :
    gL wdC d mX4_at 0 [some (.inr (.inr 50)), some (.inl x1), some (.inl x2)] h Q := by
  unfold gL
  refine x_aload_n (pc := 0) (show decode mX4_at.2.1 0 = .ok (.aload_n 0, 1) by decide +kernel) rfl rfl ?_
  refine x_getR (pc := 1) f4_15 rfl rfl (show decode mX4_at.2.1 1 = .ok (.getfield 15, 3) by decide +kernel) ?_
  refine x_iload_n (pc := 4) (show decode mX4_at.2.1 4 = .ok (.iload_n 1, 1) by decide +kernel) rfl rfl ?_
  refine x_bipush (pc := 5) (n := 30) (show decode mX4_at.2.1 5 = .ok (.bipush 30, 2) by decide +kernel) rfl ?_
  refine x_imul (pc := 7) (show decode mX4_at.2.1 7 = .ok (.imul, 1) by decide +kernel) ?_
  refine x_iload_n (pc := 8) (show decode mX4_at.2.1 8 = .ok (.iload_n 2, 1) by decide +kernel) rfl rfl ?_
  refine x_iadd (pc := 9) (show decode mX4_at.2.1 9 = .ok (.iadd, 1) by decide +kernel) ?_
  obtain ⟨hg, hR⟩ := hR
  refine x_lald (pc := 10) rfl (by decide) hg (show decode mX4_at.2.1 10 = .ok (.laload, 1) by decide +kernel) ?_
  exact x_lret (pc := 11) rfl (show decode mX4_at.2.1 11 = .ok (.lreturn, 1) by decide +kernel) ⟨_, rfl, hR⟩
set_option maxRecDepth 4000 in
theorem sg_J_bitCount_0 {wd : List xE} {d : Nat} {x0 : Int} {h : xH} {Q : Int → xH → Prop}
    (hR : (0 ≤ x0 ∧ inI x0) ∧ (0 ≤ (x0 - (xandI (x0 / 2 ^ (Int.toNat 1)) 1431655765)) ∧ inI (x0 - (xandI (x0 / 2 ^ (Int.toNat 1)) 1431655765))) ∧ (0 ≤ ((xandI (x0 - (xandI (x0 / 2 ^ (Int.toNat 1)) 1431655765)) 858993459) + (xandI ((x0 - (xandI (x0 / 2 ^ (Int.toNat 1)) 1431655765)) / 2 ^ (Int.toNat 2)) 858993459)) ∧ inI ((xandI (x0 - (xandI (x0 / 2 ^ (Int.toNat 1)) 1431655765)) 858993459) + (xandI ((x0 - (xandI (x0 / 2 ^ (Int.toNat 1)) 1431655765)) / 2 ^ (Int.toNat 2)) 858993459))) ∧ (0 ≤ (xandI (((xandI (x0 - (xandI (x0 / 2 ^ (Int.toNat 1)) 1431655765)) 858993459) + (xandI ((x0 - (xandI (x0 / 2 ^ (Int.toNat 1)) 1431655765)) / 2 ^ (Int.toNat 2)) 858993459)) + (((xandI (x0 - (xandI (x0 / 2 ^ (Int.toNat 1)) 1431655765)) 858993459) + (xandI ((x0 - (xandI (x0 / 2 ^ (Int.toNat 1)) 1431655765)) / 2 ^ (Int.toNat 2)) 858993459)) / 2 ^ (Int.toNat 4))) 252645135) ∧ inI (xandI (((xandI (x0 - (xandI (x0 / 2 ^ (Int.toNat 1)) 1431655765)) 858993459) + (xandI ((x0 - (xandI (x0 / 2 ^ (Int.toNat 1)) 1431655765)) / 2 ^ (Int.toNat 2)) 858993459)) + (((xandI (x0 - (xandI (x0 / 2 ^ (Int.toNat 1)) 1431655765)) 858993459) + (xandI ((x0 - (xandI (x0 / 2 ^ (Int.toNat 1)) 1431655765)) / 2 ^ (Int.toNat 2)) 858993459)) / 2 ^ (Int.toNat 4))) 252645135)) ∧ (0 ≤ ((xandI (((xandI (x0 - (xandI (x0 / 2 ^ (Int.toNat 1)) 1431655765)) 858993459) + (xandI ((x0 - (xandI (x0 / 2 ^ (Int.toNat 1)) 1431655765)) / 2 ^ (Int.toNat 2)) 858993459)) + (((xandI (x0 - (xandI (x0 / 2 ^ (Int.toNat 1)) 1431655765)) 858993459) + (xandI ((x0 - (xandI (x0 / 2 ^ (Int.toNat 1)) 1431655765)) / 2 ^ (Int.toNat 2)) 858993459)) / 2 ^ (Int.toNat 4))) 252645135) + ((xandI (((xandI (x0 - (xandI (x0 / 2 ^ (Int.toNat 1)) 1431655765)) 858993459) + (xandI ((x0 - (xandI (x0 / 2 ^ (Int.toNat 1)) 1431655765)) / 2 ^ (Int.toNat 2)) 858993459)) + (((xandI (x0 - (xandI (x0 / 2 ^ (Int.toNat 1)) 1431655765)) 858993459) + (xandI ((x0 - (xandI (x0 / 2 ^ (Int.toNat 1)) 1431655765)) / 2 ^ (Int.toNat 2)) 858993459)) / 2 ^ (Int.toNat 4))) 252645135) / 2 ^ (Int.toNat 8))) ∧ inI ((xandI (((xandI (x0 - (xandI (x0 / 2 ^ (Int.toNat 1)) 1431655765)) 858993459) + (xandI ((x0 - (xandI (x0 / 2 ^ (Int.toNat 1)) 1431655765)) / 2 ^ (Int.toNat 2)) 858993459)) + (((xandI (x0 - (xandI (x0 / 2 ^ (Int.toNat 1)) 1431655765)) 858993459) + (xandI ((x0 - (xandI (x0 / 2 ^ (Int.toNat 1)) 1431655765)) / 2 ^ (Int.toNat 2)) 858993459)) / 2 ^ (Int.toNat 4))) 252645135) + ((xandI (((xandI (x0 - (xandI (x0 / 2 ^ (Int.toNat 1)) 1431655765)) 858993459) + (xandI ((x0 - (xandI (x0 / 2 ^ (Int.toNat 1)) 1431655765)) / 2 ^ (Int.toNat 2)) 858993459)) + (((xandI (x0 - (xandI (x0 / 2 ^ (Int.toNat 1)) 1431655765)) 858993459) + (xandI ((x0 - (xandI (x0 / 2 ^ (Int.toNat 1)) 1431655765)) / 2 ^ (Int.toNat 2)) 858993459)) / 2 ^ (Int.toNat 4))) 252645135) / 2 ^ (Int.toNat 8)))) ∧ Q (xandI (((xandI (((xandI (x0 - (xandI (x0 / 2 ^ (Int.toNat 1)) 1431655765)) 858993459) + (xandI ((x0 - (xandI (x0 / 2 ^ (Int.toNat 1)) 1431655765)) / 2 ^ (Int.toNat 2)) 858993459)) + (((xandI (x0 - (xandI (x0 / 2 ^ (Int.toNat 1)) 1431655765)) 858993459) + (xandI ((x0 - (xandI (x0 / 2 ^ (Int.toNat 1)) 1431655765)) / 2 ^ (Int.toNat 2)) 858993459)) / 2 ^ (Int.toNat 4))) 252645135) + ((xandI (((xandI (x0 - (xandI (x0 / 2 ^ (Int.toNat 1)) 1431655765)) 858993459) + (xandI ((x0 - (xandI (x0 / 2 ^ (Int.toNat 1)) 1431655765)) / 2 ^ (Int.toNat 2)) 858993459)) + (((xandI (x0 - (xandI (x0 / 2 ^ (Int.toNat 1)) 1431655765)) 858993459) + (xandI ((x0 - (xandI (x0 / 2 ^ (Int.toNat 1)) 1431655765)) / 2 ^ (Int.toNat 2)) 858993459)) / 2 ^ (Int.toNat 4))) 252645135) / 2 ^ (Int.toNat 8))) + (((xandI (((xandI (x0 - (xandI (x0 / 2 ^ (Int.toNat 1)) 1431655765)) 858993459) + (xandI ((x0 - (xandI (x0 / 2 ^ (Int.toNat 1)) 1431655765)) / 2 ^ (Int.toNat 2)) 858993459)) + (((xandI (x0 - (xandI (x0 / 2 ^ (Int.toNat 1)) 1431655765)) 858993459) + (xandI ((x0 - (xandI (x0 / 2 ^ (Int.toNat 1)) 1431655765)) / 2 ^ (Int.toNat 2)) 858993459)) / 2 ^ (Int.toNat 4))) 252645135) + ((xandI (((xandI (x0 - (xandI (x0 / 2 ^ (Int.toNat 1)) 1431655765)) 858993459) + (xandI ((x0 - (xandI (x0 / 2 ^ (Int.toNat 1)) 1431655765)) / 2 ^ (Int.toNat 2)) 858993459)) + (((xandI (x0 - (xandI (x0 / 2 ^ (Int.toNat 1)) 1431655765)) 858993459) + (xandI ((x0 - (xandI (x0 / 2 ^ (Int.toNat 1)) 1431655765)) / 2 ^ (Int.toNat 2)) 858993459)) / 2 ^ (Int.toNat 4))) 252645135) / 2 ^ (Int.toNat 8))) / 2 ^ (Int.toNat 16))) 63) h) :
    gI wd d mJ_bitCount 0 [some (.inl x0)] h Q := by
  unfold gI
  refine x_iload_n (pc := 0) (show decode mJ_bitCount.2.1 0 = .ok (.iload_n 0, 1) by decide +kernel) rfl rfl ?_
  refine x_iload_n (pc := 1) (show decode mJ_bitCount.2.1 1 = .ok (.iload_n 0, 1) by decide +kernel) rfl rfl ?_
  refine x_iconst (pc := 2) (n := 1) (show decode mJ_bitCount.2.1 2 = .ok (.iconst 1, 1) by decide +kernel) ?_
  obtain ⟨hg, hR⟩ := hR
  refine x_iushr (pc := 3) (show decode mJ_bitCount.2.1 3 = .ok (.iushr, 1) by decide +kernel) ⟨hg, by decide⟩ ?_
  refine x_ldcw (pc := 4) (n := 1431655765) (tblG_m3 206 rfl rfl) rfl (show decode mJ_bitCount.2.1 4 = .ok (.ldc_w 265, 3) by decide +kernel) ?_
  refine x_iand (pc := 7) (show decode mJ_bitCount.2.1 7 = .ok (.iand, 1) by decide +kernel) ?_
  refine x_isub (pc := 8) (show decode mJ_bitCount.2.1 8 = .ok (.isub, 1) by decide +kernel) ?_
  refine x_istore_n (pc := 9) (ls' := [some (.inl (x0 - (xandI (x0 / 2 ^ (Int.toNat 1)) 1431655765)))]) (show decode mJ_bitCount.2.1 9 = .ok (.istore_n 0, 1) by decide +kernel) rfl (by decide) rfl ?_
  refine x_iload_n (pc := 10) (show decode mJ_bitCount.2.1 10 = .ok (.iload_n 0, 1) by decide +kernel) rfl rfl ?_
  refine x_ldcw (pc := 11) (n := 858993459) (tblG_m3 207 rfl rfl) rfl (show decode mJ_bitCount.2.1 11 = .ok (.ldc_w 266, 3) by decide +kernel) ?_
  refine x_iand (pc := 14) (show decode mJ_bitCount.2.1 14 = .ok (.iand, 1) by decide +kernel) ?_
  refine x_iload_n (pc := 15) (show decode mJ_bitCount.2.1 15 = .ok (.iload_n 0, 1) by decide +kernel) rfl rfl ?_
  refine x_iconst (pc := 16) (n := 2) (show decode mJ_bitCount.2.1 16 = .ok (.iconst 2, 1) by decide +kernel) ?_
  obtain ⟨hg, hR⟩ := hR
  refine x_iushr (pc := 17) (show decode mJ_bitCount.2.1 17 = .ok (.iushr, 1) by decide +kernel) ⟨hg, by decide⟩ ?_
  refine x_ldcw (pc := 18) (n := 858993459) (tblG_m3 207 rfl rfl) rfl (show decode mJ_bitCount.2.1 18 = .ok (.ldc_w 266, 3) by decide +kernel) ?_
  refine x_iand (pc := 21) (show decode mJ_bitCount.2.1 21 = .ok (.iand, 1) by decide +kernel) ?_
  refine x_iadd (pc := 22) (show decode mJ_bitCount.2.1 22 = .ok (.iadd, 1) by decide +kernel) ?_
  refine x_istore_n (pc := 23) (ls' := [some (.inl ((xandI (x0 - (xandI (x0 / 2 ^ (Int.toNat 1)) 1431655765)) 858993459) + (xandI ((x0 - (xandI (x0 / 2 ^ (Int.toNat 1)) 1431655765)) / 2 ^ (Int.toNat 2)) 858993459)))]) (show decode mJ_bitCount.2.1 23 = .ok (.istore_n 0, 1) by decide +kernel) rfl (by decide) rfl ?_
  refine x_iload_n (pc := 24) (show decode mJ_bitCount.2.1 24 = .ok (.iload_n 0, 1) by decide +kernel) rfl rfl ?_
  refine x_iload_n (pc := 25) (show decode mJ_bitCount.2.1 25 = .ok (.iload_n 0, 1) by decide +kernel) rfl rfl ?_
  refine x_iconst (pc := 26) (n := 4) (show decode mJ_bitCount.2.1 26 = .ok (.iconst 4, 1) by decide +kernel) ?_
  obtain ⟨hg, hR⟩ := hR
  refine x_iushr (pc := 27) (show decode mJ_bitCount.2.1 27 = .ok (.iushr, 1) by decide +kernel) ⟨hg, by decide⟩ ?_
  refine x_iadd (pc := 28) (show decode mJ_bitCount.2.1 28 = .ok (.iadd, 1) by decide +kernel) ?_
  refine x_ldcw (pc := 29) (n := 252645135) (tblG_m3 208 rfl rfl) rfl (show decode mJ_bitCount.2.1 29 = .ok (.ldc_w 267, 3) by decide +kernel) ?_
  refine x_iand (pc := 32) (show decode mJ_bitCount.2.1 32 = .ok (.iand, 1) by decide +kernel) ?_
  refine x_istore_n (pc := 33) (ls' := [some (.inl (xandI (((xandI (x0 - (xandI (x0 / 2 ^ (Int.toNat 1)) 1431655765)) 858993459) + (xandI ((x0 - (xandI (x0 / 2 ^ (Int.toNat 1)) 1431655765)) / 2 ^ (Int.toNat 2)) 858993459)) + (((xandI (x0 - (xandI (x0 / 2 ^ (Int.toNat 1)) 1431655765)) 858993459) + (xandI ((x0 - (xandI (x0 / 2 ^ (Int.toNat 1)) 1431655765)) / 2 ^ (Int.toNat 2)) 858993459)) / 2 ^ (Int.toNat 4))) 252645135))]) (show decode mJ_bitCount.2.1 33 = .ok (.istore_n 0, 1) by decide +kernel) rfl (by decide) rfl ?_
  refine x_iload_n (pc := 34) (show decode mJ_bitCount.2.1 34 = .ok (.iload_n 0, 1) by decide +kernel) rfl rfl ?_
  refine x_iload_n (pc := 35) (show decode mJ_bitCount.2.1 35 = .ok (.iload_n 0, 1) by decide +kernel) rfl rfl ?_
  refine x_bipush (pc := 36) (n := 8) (show decode mJ_bitCount.2.1 36 = .ok (.bipush 8, 2) by decide +kernel) rfl ?_
  obtain ⟨hg, hR⟩ := hR
  refine x_iushr (pc := 38) (show decode mJ_bitCount.2.1 38 = .ok (.iushr, 1) by decide +kernel) ⟨hg, by decide⟩ ?_
  refine x_iadd (pc := 39) (show decode mJ_bitCount.2.1 39 = .ok (.iadd, 1) by decide +kernel) ?_
  refine x_istore_n (pc := 40) (ls' := [some (.inl ((xandI (((xandI (x0 - (xandI (x0 / 2 ^ (Int.toNat 1)) 1431655765)) 858993459) + (xandI ((x0 - (xandI (x0 / 2 ^ (Int.toNat 1)) 1431655765)) / 2 ^ (Int.toNat 2)) 858993459)) + (((xandI (x0 - (xandI (x0 / 2 ^ (Int.toNat 1)) 1431655765)) 858993459) + (xandI ((x0 - (xandI (x0 / 2 ^ (Int.toNat 1)) 1431655765)) / 2 ^ (Int.toNat 2)) 858993459)) / 2 ^ (Int.toNat 4))) 252645135) + ((xandI (((xandI (x0 - (xandI (x0 / 2 ^ (Int.toNat 1)) 1431655765)) 858993459) + (xandI ((x0 - (xandI (x0 / 2 ^ (Int.toNat 1)) 1431655765)) / 2 ^ (Int.toNat 2)) 858993459)) + (((xandI (x0 - (xandI (x0 / 2 ^ (Int.toNat 1)) 1431655765)) 858993459) + (xandI ((x0 - (xandI (x0 / 2 ^ (Int.toNat 1)) 1431655765)) / 2 ^ (Int.toNat 2)) 858993459)) / 2 ^ (Int.toNat 4))) 252645135) / 2 ^ (Int.toNat 8))))]) (show decode mJ_bitCount.2.1 40 = .ok (.istore_n 0, 1) by decide +kernel) rfl (by decide) rfl ?_
  refine x_iload_n (pc := 41) (show decode mJ_bitCount.2.1 41 = .ok (.iload_n 0, 1) by decide +kernel) rfl rfl ?_
  refine x_iload_n (pc := 42) (show decode mJ_bitCount.2.1 42 = .ok (.iload_n 0, 1) by decide +kernel) rfl rfl ?_
  refine x_bipush (pc := 43) (n := 16) (show decode mJ_bitCount.2.1 43 = .ok (.bipush 16, 2) by decide +kernel) rfl ?_
  obtain ⟨hg, hR⟩ := hR
  refine x_iushr (pc := 45) (show decode mJ_bitCount.2.1 45 = .ok (.iushr, 1) by decide +kernel) ⟨hg, by decide⟩ ?_
  refine x_iadd (pc := 46) (show decode mJ_bitCount.2.1 46 = .ok (.iadd, 1) by decide +kernel) ?_
  refine x_istore_n (pc := 47) (ls' := [some (.inl (((xandI (((xandI (x0 - (xandI (x0 / 2 ^ (Int.toNat 1)) 1431655765)) 858993459) + (xandI ((x0 - (xandI (x0 / 2 ^ (Int.toNat 1)) 1431655765)) / 2 ^ (Int.toNat 2)) 858993459)) + (((xandI (x0 - (xandI (x0 / 2 ^ (Int.toNat 1)) 1431655765)) 858993459) + (xandI ((x0 - (xandI (x0 / 2 ^ (Int.toNat 1)) 1431655765)) / 2 ^ (Int.toNat 2)) 858993459)) / 2 ^ (Int.toNat 4))) 252645135) + ((xandI (((xandI (x0 - (xandI (x0 / 2 ^ (Int.toNat 1)) 1431655765)) 858993459) + (xandI ((x0 - (xandI (x0 / 2 ^ (Int.toNat 1)) 1431655765)) / 2 ^ (Int.toNat 2)) 858993459)) + (((xandI (x0 - (xandI (x0 / 2 ^ (Int.toNat 1)) 1431655765)) 858993459) + (xandI ((x0 - (xandI (x0 / 2 ^ (Int.toNat 1)) 1431655765)) / 2 ^ (Int.toNat 2)) 858993459)) / 2 ^ (Int.toNat 4))) 252645135) / 2 ^ (Int.toNat 8))) + (((xandI (((xandI (x0 - (xandI (x0 / 2 ^ (Int.toNat 1)) 1431655765)) 858993459) + (xandI ((x0 - (xandI (x0 / 2 ^ (Int.toNat 1)) 1431655765)) / 2 ^ (Int.toNat 2)) 858993459)) + (((xandI (x0 - (xandI (x0 / 2 ^ (Int.toNat 1)) 1431655765)) 858993459) + (xandI ((x0 - (xandI (x0 / 2 ^ (Int.toNat 1)) 1431655765)) / 2 ^ (Int.toNat 2)) 858993459)) / 2 ^ (Int.toNat 4))) 252645135) + ((xandI (((xandI (x0 - (xandI (x0 / 2 ^ (Int.toNat 1)) 1431655765)) 858993459) + (xandI ((x0 - (xandI (x0 / 2 ^ (Int.toNat 1)) 1431655765)) / 2 ^ (Int.toNat 2)) 858993459)) + (((xandI (x0 - (xandI (x0 / 2 ^ (Int.toNat 1)) 1431655765)) 858993459) + (xandI ((x0 - (xandI (x0 / 2 ^ (Int.toNat 1)) 1431655765)) / 2 ^ (Int.toNat 2)) 858993459)) / 2 ^ (Int.toNat 4))) 252645135) / 2 ^ (Int.toNat 8))) / 2 ^ (Int.toNat 16))))]) (show decode mJ_bitCount.2.1 47 = .ok (.istore_n 0, 1) by decide +kernel) rfl (by decide) rfl ?_
  refine x_iload_n (pc := 48) (show decode mJ_bitCount.2.1 48 = .ok (.iload_n 0, 1) by decide +kernel) rfl rfl ?_
  refine x_bipush (pc := 49) (n := 63) (show decode mJ_bitCount.2.1 49 = .ok (.bipush 63, 2) by decide +kernel) rfl ?_
  refine x_iand (pc := 51) (show decode mJ_bitCount.2.1 51 = .ok (.iand, 1) by decide +kernel) ?_
  exact x_iret (pc := 52) rfl (show decode mJ_bitCount.2.1 52 = .ok (.ireturn, 1) by decide +kernel) ⟨_, rfl, hR⟩
set_option maxRecDepth 4000 in
theorem sg_J_fill_0 {d : Nat} {x1 : Int} {h : xH} {Q : xH → Prop}
    (hR : gV wdC d mJ_fill 5 [some (.inr (.inr 31)), some (.inl x1), some (.inl 0), some (.inl 12)] h Q) :
    gV wdC d mJ_fill 0 [some (.inr (.inr 31)), some (.inl x1), none, none] h Q := by
  unfold gV
  refine x_iconst (pc := 0) (n := 0) (show decode mJ_fill.2.1 0 = .ok (.iconst 0, 1) by decide +kernel) ?_
  refine x_istore_n (pc := 1) (ls' := [some (.inr (.inr 31)), some (.inl x1), some (.inl 0), none]) (show decode mJ_fill.2.1 1 = .ok (.istore_n 2, 1) by decide +kernel) rfl (by decide) rfl ?_
  refine x_aload_n (pc := 2) (show decode mJ_fill.2.1 2 = .ok (.aload_n 0, 1) by decide +kernel) rfl rfl ?_
  refine x_alen (pc := 3) (ni := 12) rfl rfl (show decode mJ_fill.2.1 3 = .ok (.arraylength, 1) by decide +kernel) ?_
  refine x_istore_n (pc := 4) (ls' := [some (.inr (.inr 31)), some (.inl x1), some (.inl 0), some (.inl 12)]) (show decode mJ_fill.2.1 4 = .ok (.istore_n 3, 1) by decide +kernel) rfl (by decide) rfl ?_
  exact hR
set_option maxRecDepth 4000 in
theorem sg_J_fill_5 {d : Nat} {x1 x2 x3 : Int} {h : xH} {Q : xH → Prop}
    (hR : (inI x2 ∧ inI x3) ∧ (x3 ≤ x2 → Q h) ∧ (x2 < x3 → (0 ≤ x2 ∧ x2 < 12) ∧ gV wdC d mJ_fill 5 [some (.inr (.inr 31)), some (.inl x1), some (.inl (x2 + 1)), some (.inl x3)] (xu h 31 x2 x1) Q)) :
    gV wdC d mJ_fill 5 [some (.inr (.inr 31)), some (.inl x1), some (.inl x2), some (.inl x3)] h Q := by
  unfold gV
  refine x_iload_n (pc := 5) (show decode mJ_fill.2.1 5 = .ok (.iload_n 2, 1) by decide +kernel) rfl rfl ?_
  refine x_iload_n (pc := 6) (show decode mJ_fill.2.1 6 = .ok (.iload_n 3, 1) by decide +kernel) rfl rfl ?_
  obtain ⟨hg, hR⟩ := hR
  refine x_icmp_ge (pc := 7) (tgt := 20) (show decode mJ_fill.2.1 7 = .ok (.if_icmp .ge 13, 3) by decide +kernel) (by decide) ⟨hg.1, hg.2⟩ (fun hc => ?_) (fun hc => ?_)
  · replace hR := hR.1 hc
    exact x_vret (pc := 20) rfl (show decode mJ_fill.2.1 20 = .ok (.return_, 1) by decide +kernel) ⟨rfl, hR⟩
  · replace hR := hR.2 hc
    refine x_aload_n (pc := 10) (show decode mJ_fill.2.1 10 = .ok (.aload_n 0, 1) by decide +kernel) rfl rfl ?_
    refine x_iload_n (pc := 11) (show decode mJ_fill.2.1 11 = .ok (.iload_n 2, 1) by decide +kernel) rfl rfl ?_
    refine x_iload_n (pc := 12) (show decode mJ_fill.2.1 12 = .ok (.iload_n 1, 1) by decide +kernel) rfl rfl ?_
    obtain ⟨hg, hR⟩ := hR
    refine x_iast (pc := 13) rfl (by decide) hg (show decode mJ_fill.2.1 13 = .ok (.iastore, 1) by decide +kernel) ?_
    refine x_iinc (pc := 14) (ls' := [some (.inr (.inr 31)), some (.inl x1), some (.inl (x2 + 1)), some (.inl x3)]) (show decode mJ_fill.2.1 14 = .ok (.iinc 2 1, 3) by decide +kernel) (by decide) rfl rfl ?_
    refine x_goto (pc := 17) (tgt := 5) (show decode mJ_fill.2.1 17 = .ok (.goto (-12), 3) by decide +kernel) (by decide) ?_
    exact hR
