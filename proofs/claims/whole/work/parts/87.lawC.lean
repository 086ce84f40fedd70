/-! The law from its start -/
set_option maxRecDepth 20000 in
theorem lw_arr {args : Array Value} {s : State} {at0 : ArrayType} (h : (Cond.arrayClass (newarray.typeOf at0)).before args s = true) : ∃ cA : ClassId, ArrOfT s cA (newarray.typeOf at0) ∧ va_RA s cA (newarray.typeOf at0) := by
  obtain ⟨cA, kA, comp, h1, h2, h3⟩ := Cond.arrayClass_spec h
  exact ⟨cA, fun n z => ⟨fun k h => (by cases h), kA, h2, comp, h3⟩, by cases at0 <;> exact h1⟩
set_option maxRecDepth 20000 in
set_option maxHeartbeats 2000000 in
theorem lw_known {b : Nat} {s : State} (hts : ∀ w ∈ lw_tbl, w.before #[Value.ref b] s = true) : ∃ (D : va_G) (tc : Nat → ClassId), va_K D vwCl (xT tc) s := by
  have htg : ∀ w ∈ tblG, w.before #[Value.ref b] s = true := fun w hw => hts w (List.mem_filter.mp hw).1
  obtain ⟨c0, i0, k0⟩ := u_known (C := RX0) (T := TX0) (N := 7) htg iG0 (htg _ (tblG_m1 73 rfl rfl))
  obtain ⟨c1, i1, k1⟩ := u_known (C := RX1) (T := TX1) (N := 8) htg iG1 (htg _ (tblG_m1 172 rfl rfl))
  obtain ⟨c2, i2, k2⟩ := u_known (C := RX2) (T := TX2) (N := 5) htg iG2 (htg _ (tblG_m1 106 rfl rfl))
  obtain ⟨c3, i3, k3⟩ := u_known (C := RX3) (T := TX3) (N := 8) htg iG3 (htg _ (tblG_m1 27 rfl rfl))
  obtain ⟨c4, i4, k4⟩ := u_known (C := RX4) (T := TX4) (N := 2) htg iG4 (htg _ (tblG_m2 10 rfl rfl))
  obtain ⟨c5, i5, k5⟩ := u_known (C := RX5) (T := TX5) (N := 9) htg iG5 (htg _ (tblG_m1 209 rfl rfl))
  obtain ⟨c6, i6, k6⟩ := u_known (C := RX6) (T := TX6) (N := 10) htg iG6 (htg _ (tblG_m1 133 rfl rfl))
  obtain ⟨c7, i7, k7⟩ := u_known (C := RX7) (T := TX7) (N := 13) htg iG7 (htg _ (tblG_m1 19 rfl rfl))
  obtain ⟨c8, i8, k8⟩ := u_known (C := RX8) (T := TX8) (N := 30) htg iG8 (htg _ (tblG_m4 226 rfl rfl))
  obtain ⟨t0, a0, r0⟩ := lw_arr (at0 := .int) (htg _ (tblG_m1 71 rfl rfl))
  obtain ⟨t1, a1, r1⟩ := lw_arr (at0 := .long) (htg _ (tblG_m1 131 rfl rfl))
  obtain ⟨t2, a2, r2⟩ := lw_arr (at0 := .int) (htg _ (tblG_m1 71 rfl rfl))
  obtain ⟨t3, a3, r3⟩ := lw_arr (at0 := .char) (htg _ (tblG_m5 87 rfl rfl))
  refine ⟨(fun c => match c with | 0 => c0 | 1 => c1 | 2 => c2 | 3 => c3 | 4 => c4 | 5 => c5 | 6 => c6 | 7 => c7 | _ => c8, fun c => match c with | 0 => i0 | 1 => i1 | 2 => i2 | 3 => i3 | 4 => i4 | 5 => i5 | 6 => i6 | 7 => i7 | _ => i8), fun j => match j with | 0 => t0 | 1 => t1 | 2 => t2 | _ => t3, fun c q hq => ?_, fun j q hq => ?_⟩
  · match c, hq with
    | 0, hq => cases hq; exact k0
    | 1, hq => cases hq; exact k1
    | 2, hq => cases hq; exact k2
    | 3, hq => cases hq; exact k3
    | 4, hq => cases hq; exact k4
    | 5, hq => cases hq; exact k5
    | 6, hq => cases hq; exact k6
    | 7, hq => cases hq; exact k7
    | 8, hq => cases hq; exact k8
    | c + 9, hq => simp at hq
  · match j, hq with
    | 0, hq => cases hq; exact ⟨a0, r0⟩
    | 1, hq => cases hq; exact ⟨a1, r1⟩
    | 2, hq => cases hq; exact ⟨a2, r2⟩
    | 3, hq => cases hq; exact ⟨a3, r3⟩
    | c + 4, hq => simp [xT] at hq
theorem lw_nest {b : Nat} {s : State} (hts : ∀ w ∈ lw_tbl, w.before #[Value.ref b] s = true) : xN s := by
  intro w hw
  have h1 := hts w (List.mem_filter.mp hw).1
  have h2 := (List.mem_filter.mp hw).2
  unfold x_nest at h2
  split at h2
  · exact va_tabs rfl rfl h1
  · exact va_tabs rfl rfl h1
  · cases h2
def lwT (i : Nat) : Term := .string "LacePins$Tape" (xskk.getD i 0)
theorem lw_m1 : ∀ i : Nat, i < 9 → Cond.exactly (lwT i) "java/lang/String" ∈ flatC (Jvm.Cond.and given_1 narrow_1) := by decide +kernel
theorem lw_m2 : ∀ i : Nat, i < 9 → Cond.eq (.field (lwT i) "java/lang/String" "coder" "B") (.int 0) ∈ flatC (Jvm.Cond.and given_1 narrow_1) := by decide +kernel
theorem lw_m3 : ∀ i : Nat, i < 9 → Cond.arrayOf (.field (lwT i) "java/lang/String" "value" "[B") .byte ∈ flatC (Jvm.Cond.and given_1 narrow_1) := by decide +kernel
theorem lw_m4 : ∀ i : Nat, i < 9 → Cond.eq (.length (.field (lwT i) "java/lang/String" "value" "[B")) (.int (Int32.ofNat (xlen.getD i 0))) ∈ flatC (Jvm.Cond.and given_1 narrow_1) := by decide +kernel
theorem lw_m5 : ∀ i : Nat, i < 9 → ∀ j : Nat, j < xlen.getD i 0 → Cond.eq (.elem (.field (lwT i) "java/lang/String" "value" "[B") (.int (Int32.ofNat j))) (.int ((xbyt.getD i []).getD j 0)) ∈ flatC (Jvm.Cond.and given_1 narrow_1) := by decide +kernel
theorem lw_m6 : ∀ i : Nat, i < 9 → ∀ j : Nat, j < 9 → i ≠ j → Cond.not (Cond.eq (lwT i) (lwT j)) ∈ flatC (Jvm.Cond.and given_1 narrow_1) ∨ Cond.not (Cond.eq (lwT j) (lwT i)) ∈ flatC (Jvm.Cond.and given_1 narrow_1) := by decide +kernel
theorem lw_m7 : Cond.eq (.static "java/lang/String" "COMPACT_STRINGS" "Z") (.int 1) ∈ flatC (Jvm.Cond.and given_1 narrow_1) := by decide +kernel
theorem lw_m8 : Cond.isRef (.static "jdk/internal/util/Preconditions" "SIOOBE_FORMATTER" "Ljava/util/function/BiFunction;") ∈ flatC (Jvm.Cond.and given_1 narrow_1) := by decide +kernel
set_option maxRecDepth 20000 in
theorem lw_txt {b : Nat} {s : State} (hts : ∀ w ∈ lw_tbl, w.before #[Value.ref b] s = true) : ∀ i : Nat, i < 9 → (Cond.stringRef "LacePins$Tape" (xskk.getD i 0) (xstx.getD i "")).before #[Value.ref b] s = true := by
  intro i hi
  match i, hi with
  | 0, _ => exact hts _ (tblA_m4 (List.mem_of_getElem? (i := 83) rfl))
  | 1, _ => exact hts _ (tblA_m4 (List.mem_of_getElem? (i := 136) rfl))
  | 2, _ => exact hts _ (tblA_m4 (List.mem_of_getElem? (i := 137) rfl))
  | 3, _ => exact hts _ (tblA_m4 (List.mem_of_getElem? (i := 138) rfl))
  | 4, _ => exact hts _ (tblA_m4 (List.mem_of_getElem? (i := 162) rfl))
  | 5, _ => exact hts _ (tblA_m4 (List.mem_of_getElem? (i := 163) rfl))
  | 6, _ => exact hts _ (tblA_m4 (List.mem_of_getElem? (i := 164) rfl))
  | 7, _ => exact hts _ (tblA_m4 (List.mem_of_getElem? (i := 165) rfl))
  | 8, _ => exact hts _ (tblA_m4 (List.mem_of_getElem? (i := 166) rfl))
  | i + 9, hi => omega
theorem lw_pick (f g : Nat → Nat) : ∃ ad : Nat → Nat, (∀ i, i < 9 → ad (1000 + i) = f i) ∧ ∀ i, ad (2000 + i) = g i := by
  obtain ⟨M, hM⟩ : ∃ M : Nat, M = 2000 := ⟨_, rfl⟩
  obtain ⟨N, hN⟩ : ∃ N : Nat, N = 1000 := ⟨_, rfl⟩
  refine ⟨fun q => if q < M then f (q - N) else g (q - M), fun i hi => ?_, fun i => ?_⟩
  · show (if 1000 + i < M then f (1000 + i - N) else g (1000 + i - M)) = f i
    rw [if_pos (by omega), show 1000 + i - N = i by omega]
  · show (if 2000 + i < M then f (2000 + i - N) else g (2000 + i - M)) = g i
    rw [if_neg (by omega), show 2000 + i - M = i by omega]
set_option maxRecDepth 20000 in
theorem lw_strs {b : Nat} {s : State} (hts : ∀ w ∈ lw_tbl, w.before #[Value.ref b] s = true) (hg : (Jvm.Cond.and given_1 narrow_1).before #[Value.ref b] s = true) : ∃ ad0 : Nat → Nat, xS ad0 (lwA s) s s.heap := by
  have hs := flat_of_before _ hg
  have hA : ∀ a : Nat, a < s.heap.size → ¬ lwA s a := fun a h z => absurd h (Nat.not_lt.mpr z)
  obtain ⟨adK, adV, hV, hT⟩ := vk_Sof (args := #[Value.ref b]) (N := 9) (tm := lwT) (len := xlen) (byt := xbyt) (A := lwA s) (by decide) (fun i hi => hs _ (lw_m1 i hi)) (fun i hi => hs _ (lw_m2 i hi)) (fun i hi => hs _ (lw_m3 i hi)) (fun i hi => hs _ (lw_m4 i hi)) (fun i hi j hj => hs _ (lw_m5 i hi j hj)) (fun i j hi hj hn => (lw_m6 i hi j hj hn).imp (hs _) (hs _)) hA
  obtain ⟨ad, g1, g2⟩ := lw_pick adK adV
  refine ⟨ad, ⟨fun i hi => ?_, fun i j hi hj he => ?_⟩, ?_, ?_, ?_⟩
  · have := hV.1 i hi
    rw [← g1 i hi, ← g2 i] at this
    exact this
  · have he : ad (1000 + i) = ad (1000 + j) := he
    rw [g1 i hi, g1 j hj] at he
    exact hV.2 i j hi hj he
  · exact va_Zof (hts _ (tblA_m4 (List.mem_of_getElem? (i := 97) rfl))) (hts _ (tblA_m1 (List.mem_of_getElem? (i := 13) rfl))) (va_eqt (hs _ lw_m7)) hA
  · exact va_Zqof (hts _ (tblA_m4 (List.mem_of_getElem? (i := 113) rfl))) (hts _ (tblA_m1 (List.mem_of_getElem? (i := 15) rfl))) (hs _ lw_m8) hA
  · intro i hi
    rw [g1 i hi]
    exact vk_R.of (lw_txt hts i hi) (hT i hi)
