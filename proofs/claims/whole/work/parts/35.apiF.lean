/-! API: the pricking (2): stitch, fill, drop, pin, loom -/
theorem RBen_of {h h' : xH} {s s' : Int → Int} (hB : RBen h 6 7 8 9 10 s) (hW : WF s) (g6 : h' 6 = h 6) (g7 : h' 7 = h 7) (g8 : h' 8 = h 8) (g9 : h' 9 = h 9) (g10 : h' 10 = h 10) (e : ∀ i, 0 ≤ i → (i = 0 ∨ i = 3 ∨ i = 4 ∨ 95 ≤ i ∧ i < 125 ∨ 157 ≤ i) → s' i = s i) : RBen h' 6 7 8 9 10 s' := by
  obtain ⟨b1, ⟨D, b2, b3, b4⟩, b5, b6, b7⟩ := hB
  unfold RBen
  rw [g6, g7, g8, g9, g10, e 0 (by omega) (by omega), e 4 (by omega) (by omega), e 3 (by omega) (by omega)]
  refine ⟨fun t a b => ?_, ⟨D, b2, b3, fun p hp => ?_⟩, b5, b6, fun i a b => ?_⟩
  · rw [e _ (by omega) (by omega), e _ (by omega) (by omega)]; exact b1 t a b
  · rw [e _ (by omega) (by omega)]; exact b4 p hp
  · rw [e _ (by omega) (by omega), e _ (by omega) (by omega)]; exact b7 i a b
theorem A_stitch (p st : Int) (hp : inI p) (hst : inI st) : AI mX7_stitch mX8_stitch [.inl p, .inl st] := by
  intro h m hR
  obtain ⟨⟨i1, i2, i3, i4, i5, i6, i7, i8, i9⟩, r1, r2, r3, r4, r5, r6, r7⟩ := id hR
  obtain ⟨w1, w2, w3, w4, w5, w6, w7, w8⟩ := id i1.1
  have v2 := i1.2.2.1
  have e1 := r1.2.1
  have e4 := r2.2.2.1
  by_cases c1 : 0 ≤ p ∧ p < m 1 1
  · by_cases c2 : 0 ≤ st ∧ st ≤ 4
    · by_cases c3 : m 1 4 = 0
      · have a := w4 p c1.1 c1.2
        refine ⟨m 1 (65 + p), fun h' => h' = xu h 4 p st, fun m' => m' = xu m 1 (65 + p) st, inI_s (by omega) (by omega), ?_, ?_, ?_⟩
        · exact sg_X7_stitch_0 (by omega) (C_isPin hp (by omega) (fun _ => C_isStitch hst (fun _ => C_anyDone (by omega) (fun z => by omega) (fun _ => ⟨by omega, by omega, (r1.2.2.2.1 p c1.1 c1.2).2.2, rfl⟩)) (fun z => absurd c2 z)) (fun z => absurd (by omega) z))
        · exact sg_X8_stitch_0 (by omega) (M_isPin (by omega) hp (by omega) (fun _ => ⟨hst, M_isIn (inL_I hst) (by unfold inL; omega) (by unfold inL; omega) (fun _ => ⟨inI_s (by omega) (by omega), fun _ => M_becomes (by omega) ⟨rfl, rfl⟩, by omega⟩) (fun z => absurd c2 z)⟩) (fun z => absurd c1 z))
        · intro h' m' eh em
          subst eh; subst em
          have es : ∀ i, i ≠ 65 + p → xu m 1 (65 + p) st 1 i = m 1 i := fun i hi => xu_ne hi
          obtain ⟨z1, z2, z3⟩ := WFb0 i1 c3
          have hWp : WFp (xu m 1 (65 + p) st 1) := by
            refine WFp_of i1.1 (es 0 (by omega)) (es 1 (by omega)) (es 2 (by omega)) (fun q a b => ⟨es _ (by omega), es _ (by omega), ?_⟩) (fun k a b => by rw [es _ (by omega)]; exact w6 k a b) (fun t a b => es _ (by omega))
            by_cases z : q = p
            · rw [z, xu_eq]; exact c2
            · rw [es _ (by omega)]; exact (w4 q a b).2.2
          have hWb : WFb (xu m 1 (65 + p) st 1) := by
            refine WFb_mk0 (by rw [es 1 (by omega)]; exact w2) (by rw [es 4 (by omega)]; exact c3) (by rw [es 3 (by omega), es 0 (by omega)]; exact z1) (fun q a b => by rw [es _ (by omega)]; exact z2 q a b) ?_
            rw [es 0 (by omega)]
            exact thOK_congr z3 (fun t a b => ⟨es _ (by omega), es _ (by omega)⟩)
          refine hR.patU (kp_xu (by decide)) (kp_xu (by decide)) (xu_cn (by decide)) (xu_cn (by decide)) (xu_cn (by decide)) ⟨hWp, hWb⟩ ?_ ?_
          · obtain ⟨q1, q2, q3, q4, ⟨f, q5, qf, qb⟩, q6, q7, q8⟩ := id r1
            refine RPat_of r1 i1.1 (es 0 (by omega)) (es 2 (by omega)) ?_ ?_ ?_ (fun q a b => ?_) ⟨f, ?_, qf, fun j hj => ?_⟩ (fun t a b => es _ (by omega)) (xu_oth (by decide))
            · simp (disch := omega) only [xu_cn]; exact q1
            · simp (disch := omega) only [xu_cn, xu_ne]; exact q2
            · simp (disch := omega) only [xu_cn]; exact q3
            · rw [es 1 (by omega)] at b
              by_cases z : q = p
              · have z9 := q4 q a b
                rw [z] at z9 ⊢
                simp (disch := omega) only [xu_cn, xu_ne, xu_eq]
                exact ⟨z9.1, z9.2.1, trivial⟩
              · simp (disch := omega) only [xu_cn, xu_ne]
                exact q4 q a b
            · simp (disch := omega) only [xu_cn]; exact q5
            · simp (disch := omega) only [xu_ne]; exact qb j hj
          · exact RBen_of r2 i1 (xu_oth (by decide)) (xu_oth (by decide)) (xu_oth (by decide)) (xu_oth (by decide)) (xu_oth (by decide)) (fun i a b => es i (by omega))
      · refine A_ref hR ⟨-3, inI_s (by omega) (by omega), ?_, ?_⟩
        · exact sg_X7_stitch_0 (by omega) (C_isPin hp (by omega) (fun _ => C_isStitch hst (fun _ => C_anyDone (by omega) (fun z => ⟨rfl, keepC_rf h⟩) (fun _ => by omega)) (fun z => absurd c2 z)) (fun z => absurd (by omega) z))
        · exact sg_X8_stitch_0 (by omega) (M_isPin (by omega) hp (by omega) (fun _ => ⟨hst, M_isIn (inL_I hst) (by unfold inL; omega) (by unfold inL; omega) (fun _ => ⟨inI_s (by omega) (by omega), by omega, fun _ => ⟨rfl, keepM_rf m⟩⟩) (fun z => absurd c2 z)⟩) (fun z => absurd c1 z))
    · refine A_ref hR ⟨-2, inI_s (by omega) (by omega), ?_, ?_⟩
      · exact sg_X7_stitch_0 (by omega) (C_isPin hp (by omega) (fun _ => C_isStitch hst (fun z => absurd z c2) (fun z => ⟨rfl, keepC_rf h⟩)) (fun z => absurd (by omega) z))
      · exact sg_X8_stitch_0 (by omega) (M_isPin (by omega) hp (by omega) (fun _ => ⟨hst, M_isIn (inL_I hst) (by unfold inL; omega) (by unfold inL; omega) (fun z => absurd z c2) (fun z => ⟨rfl, keepM_rf m⟩)⟩) (fun z => absurd c1 z))
  · refine A_ref hR ⟨-1, inI_s (by omega) (by omega), ?_, ?_⟩
    · exact sg_X7_stitch_0 (by omega) (C_isPin hp (by omega) (fun z => absurd (by omega) c1) (fun z => ⟨rfl, keepC_rf h⟩))
    · exact sg_X8_stitch_0 (by omega) (M_isPin (by omega) hp (by omega) (fun z => absurd z c1) (fun z => ⟨rfl, keepM_rf m⟩))
/-- one slot of f told anew -/
def fset (f k : Nat) (b : Bool) : Nat := if b then f ||| 2 ^ k else wo f (2 ^ k)
theorem fset_lt {f k n : Nat} {b : Bool} (hf : f < 2 ^ n) (hk : k < n) : fset f k b < 2 ^ n := by
  unfold fset
  split
  · exact Nat.or_lt_two_pow hf (two_pow_lt hk)
  · exact wo_lt hf
theorem fset_bti (f k j : Nat) (b : Bool) : bti (fset f k b) j = if j = k then b2i b else bti f j := by
  unfold fset bti
  cases b with
  | true =>
    simp only [if_true, or_bit]
    by_cases e : j = k
    · simp [e, b2i]
    · simp [e]
  | false =>
    have e0 : (if false = true then f ||| 2 ^ k else wo f (2 ^ k)) = wo f (2 ^ k) := if_neg (by decide)
    rw [e0, wo_bit, Nat.testBit_two_pow]
    by_cases e : j = k
    · simp [e, b2i]
    · have : ¬ k = j := fun z => e z.symm
      simp [e, this]
theorem C_fillAtFirst {d : Nat} {k v : Int} {h : xH} {f : Nat} {n : Nat} {Q : Int → xH → Prop} (hf : h 1 1 = f) (hl : f < 2 ^ n) (hn : n ≤ 12) (hk : 0 ≤ k ∧ k < n) (hv : inI v) (hq : Q (bti f k.toNat) (xu h 1 1 (fset f k.toNat (decide (v ≠ 0)) : Nat))) : cI wdC d mX3_fillAtFirst [.inr (.inr 1), .inl k, .inl v] h Q := by
  have f31 : f < 2 ^ 12 := Nat.lt_of_lt_of_le hl (two_pow_le hn)
  have p31 : 2 ^ k.toNat < 2 ^ 12 := two_pow_lt (by omega)
  refine sg_X3_fillAtFirst_0 ⟨⟨by rw [hf]; unfold inI; omega, by omega, by omega⟩, hv, fun z => ⟨by omega, ?_⟩, fun z => ⟨by omega, ?_⟩⟩
  · rw [decide_eq_false (fun q => q z)] at hq
    rw [hf, x_bitI (by omega) hk.1, Int.one_mul, pow_nat, xandI_wo (by omega) (by omega)]
    exact hq
  · rw [decide_eq_true z] at hq
    rw [hf, x_bitI (by omega) hk.1, Int.one_mul, pow_nat, xorI_nat (by omega) (by omega)]
    exact hq
/-- a slot is told: the reference's row and the class's -/
theorem fill_rel {h m : xH} {k : Int} {f : Nat} {b : Bool} (hR : Rel h m) (c1 : 0 ≤ k ∧ k < m 1 0) (c3 : m 1 4 = 0) (q5 : h 1 1 = f) (qf : f < 2 ^ (m 1 0).toNat) (qb : ∀ k : Nat, (k : Int) < m 1 0 → m 1 (125 + k) = bti f k) : Rel (xu h 1 1 (fset f k.toNat b : Nat)) (xu m 1 (125 + k) (b2i b)) := by
  obtain ⟨⟨i1, i2, i3, i4, i5, i6, i7, i8, i9⟩, r1, r2, r3, r4, r5, r6, r7⟩ := id hR
  obtain ⟨w1, w2, w3, w4, w5, w6, w7, w8⟩ := id i1.1
  have es : ∀ i, i ≠ 125 + k → xu m 1 (125 + k) (b2i b) 1 i = m 1 i := fun i hi => xu_ne hi
  obtain ⟨z1, z2, z3⟩ := WFb0 i1 c3
  have hWp : WFp (xu m 1 (125 + k) (b2i b) 1) := by
    refine WFp_of i1.1 (es 0 (by omega)) (es 1 (by omega)) (es 2 (by omega)) (fun q a b => ⟨es _ (by omega), es _ (by omega), by rw [es _ (by omega)]; exact (w4 q a b).2.2⟩) (fun j a b => ?_) (fun t a b => es _ (by omega))
    by_cases z : j = k
    · rw [z, xu_eq]; exact b2i_01 _
    · rw [es _ (by omega)]; exact w6 j a b
  have hWb : WFb (xu m 1 (125 + k) (b2i b) 1) := by
    refine WFb_mk0 (by rw [es 1 (by omega)]; exact w2) (by rw [es 4 (by omega)]; exact c3) (by rw [es 3 (by omega), es 0 (by omega)]; exact z1) (fun q a b => by rw [es _ (by omega)]; exact z2 q a b) ?_
    rw [es 0 (by omega)]
    exact thOK_congr z3 (fun t a b => ⟨es _ (by omega), es _ (by omega)⟩)
  refine hR.patU (kp_xu (by decide)) (kp_xu (by decide)) (xu_cn (by decide)) (xu_cn (by decide)) (xu_cn (by decide)) ⟨hWp, hWb⟩ ?_ ?_
  · obtain ⟨q1, q2, q3, q4, -, q6, q7, q8⟩ := id r1
    refine RPat_of r1 i1.1 (es 0 (by omega)) (es 2 (by omega)) ?_ ?_ ?_ (fun q a b => ?_) ⟨fset f k.toNat b, xu_eq, fset_lt qf (by omega), fun j hj => ?_⟩ (fun t a b => es _ (by omega)) (xu_oth (by decide))
    · simp (disch := omega) only [xu_ne]; exact q1
    · simp (disch := omega) only [xu_ne]; exact q2
    · simp (disch := omega) only [xu_ne]; exact q3
    · rw [es 1 (by omega)] at b
      simp (disch := omega) only [xu_cn, xu_ne]
      exact q4 q a b
    · rw [fset_bti]
      by_cases z : j = k.toNat
      · rw [if_pos z, show (125 : Int) + j = 125 + k by omega, xu_eq]
      · rw [if_neg z, es _ (by omega)]; exact qb j hj
  · exact RBen_of r2 i1 (xu_oth (by decide)) (xu_oth (by decide)) (xu_oth (by decide)) (xu_oth (by decide)) (xu_oth (by decide)) (fun i a b => es i (by omega))
theorem A_fill {d : Nat} (hd : 12 ≤ d) (k v : Int) (hk : inI k) (hv : inI v) : AId d mX7_fill mX8_fill [.inl k, .inl v] := by
  intro h m hR
  obtain ⟨⟨i1, i2, i3, i4, i5, i6, i7, i8, i9⟩, r1, r2, r3, r4, r5, r6, r7⟩ := id hR
  obtain ⟨w1, w2, w3, w4, w5, w6, w7, w8⟩ := id i1.1
  have v2 := i1.2.2.1
  obtain ⟨q1, q2, q3, q4, ⟨f, q5, qf, qb⟩, q6, q7, q8⟩ := id r1
  have e4 := r2.2.2.1
  by_cases c1 : 0 ≤ k ∧ k < m 1 0
  · by_cases c3 : m 1 4 = 0
    · have a := w6 k c1.1 (by omega)
      have eb := qb k.toNat (by omega)
      rw [show ((k.toNat : Nat) : Int) = k by omega] at eb
      refine ⟨m 1 (125 + k), fun h' => h' = xu h 1 1 (fset f k.toNat (decide (v ≠ 0)) : Nat), fun m' => m' = xu m 1 (125 + k) (b2i (decide (v ≠ 0))), inI_s (by omega) (by omega), ?_, ?_, ?_⟩
      · exact sg_X7_fill_0 (by omega) (C_isSlot hk (by omega) (fun _ => C_anyDone (by omega) (fun z => by omega) (fun _ => C_fillAtFirst q5 qf (by omega) (by omega) hv ⟨eb.symm, rfl⟩)) (fun z => absurd (by omega) z))
      · refine sg_X8_fill_0 (by omega) (M_isSlot (by omega) hk (by omega) (fun _ => ⟨inI_s (by omega) (by omega), fun _ => ⟨hv, fun z => M_becomes (by omega) ⟨rfl, ?_⟩, fun z => M_becomes (by omega) ⟨rfl, ?_⟩⟩, by omega⟩) (fun z => absurd c1 z))
        · rw [decide_eq_false (fun q => q z)]; rfl
        · rw [decide_eq_true z]; rfl
      · intro h' m' eh em
        subst eh; subst em
        exact fill_rel hR c1 c3 q5 qf qb
    · refine A_ref hR ⟨-3, inI_s (by omega) (by omega), ?_, ?_⟩
      · exact sg_X7_fill_0 (by omega) (C_isSlot hk (by omega) (fun _ => C_anyDone (by omega) (fun z => ⟨rfl, keepC_rf h⟩) (fun _ => by omega)) (fun z => absurd (by omega) z))
      · exact sg_X8_fill_0 (by omega) (M_isSlot (by omega) hk (by omega) (fun _ => ⟨inI_s (by omega) (by omega), by omega, fun _ => ⟨rfl, keepM_rf m⟩⟩) (fun z => absurd c1 z))
  · refine A_ref hR ⟨-1, inI_s (by omega) (by omega), ?_, ?_⟩
    · exact sg_X7_fill_0 (by omega) (C_isSlot hk (by omega) (fun z => absurd (by omega) c1) (fun z => ⟨rfl, keepC_rf h⟩))
    · exact sg_X8_fill_0 (by omega) (M_isSlot (by omega) hk (by omega) (fun z => absurd z c1) (fun z => ⟨rfl, keepM_rf m⟩))
theorem A_drop : AI mX7_drop mX8_drop [] := by
  intro h m hR
  obtain ⟨⟨i1, i2, i3, i4, i5, i6, i7, i8, i9⟩, r1, r2, r3, r4, r5, r6, r7⟩ := id hR
  obtain ⟨w1, w2, w3, w4, w5, w6, w7, w8⟩ := id i1.1
  have v2 := i1.2.2.1
  obtain ⟨q1, q2, q3, q4, ⟨f, q5, qf, qb⟩, q6, q7, q8⟩ := id r1
  have e4 := r2.2.2.1
  by_cases c3 : m 1 4 = 0
  · by_cases c1 : m 1 1 = 0
    · refine A_ref hR ⟨-3, inI_s (by omega) (by omega), ?_, ?_⟩
      · exact sg_X7_drop_0 (by omega) (C_anyDone (by omega) (fun z => by omega) (fun _ => ⟨inI_s (by omega) (by omega), fun z => absurd (by omega) z, fun _ => ⟨rfl, keepC_rf h⟩⟩))
      · exact sg_X8_drop_0 ⟨inI_s (by omega) (by omega), by omega, fun _ => ⟨inI_s (by omega) (by omega), fun z => absurd c1 z, fun _ => ⟨rfl, keepM_rf m⟩⟩⟩
    · refine ⟨m 1 1 - 1, fun h' => h' = xu h 1 2 (h 1 2 - 1), fun m' => m' = xu m 1 1 (m 1 1 - 1), inI_s (by omega) (by omega), ?_, ?_, ?_⟩
      · exact sg_X7_drop_0 (by omega) (C_anyDone (by omega) (fun z => by omega) (fun _ => ⟨inI_s (by omega) (by omega), fun _ => ⟨by omega, rfl⟩, by omega⟩))
      · exact sg_X8_drop_0 ⟨inI_s (by omega) (by omega), by omega, fun _ => ⟨inI_s (by omega) (by omega), fun _ => ⟨rfl, rfl⟩, by omega⟩⟩
      · intro h' m' eh em
        subst eh; subst em
        have es : ∀ i, i ≠ 1 → xu m 1 1 (m 1 1 - 1) 1 i = m 1 i := fun i hi => xu_ne hi
        obtain ⟨z1, z2, z3⟩ := WFb0 i1 c3
        have hWp : WFp (xu m 1 1 (m 1 1 - 1) 1) := by
          unfold WFp
          rw [es 0 (by omega), es 2 (by omega), xu_eq]
          refine ⟨w1, by omega, w3, fun p a b => ?_, fun p q a b c d n e => ?_, fun j a b => ?_, fun t a b => ?_, fun t u a b c d e => ?_⟩
          · rw [es _ (by omega), es _ (by omega), es _ (by omega)]; exact w4 p a (by omega)
          · rw [es _ (by omega), es _ (by omega)] at e
            rw [es _ (by omega), es _ (by omega)]; exact w5 p q a (by omega) c (by omega) n e
          · rw [es _ (by omega)]; exact w6 j a b
          · rw [es _ (by omega)]; exact w7 t a b
          · rw [es _ (by omega), es _ (by omega)] at e; exact w8 t u a b c d e
        have hWb : WFb (xu m 1 1 (m 1 1 - 1) 1) := by
          refine WFb_mk0 (by rw [xu_eq]; omega) (by rw [es 4 (by omega)]; exact c3) (by rw [es 3 (by omega), es 0 (by omega)]; exact z1) (fun q a b => by rw [es _ (by omega)]; exact z2 q a b) ?_
          rw [es 0 (by omega)]
          exact thOK_congr z3 (fun t a b => ⟨es _ (by omega), es _ (by omega)⟩)
        refine hR.patU (kp_xu (by decide)) (kp_xu (by decide)) (xu_cn (by decide)) (xu_cn (by decide)) (xu_cn (by decide)) ⟨hWp, hWb⟩ ?_ ?_
        · refine RPat_of r1 i1.1 (es 0 (by omega)) (es 2 (by omega)) ?_ ?_ ?_ (fun q a b => ?_) ⟨f, ?_, qf, fun j hj => ?_⟩ (fun t a b => es _ (by omega)) (xu_oth (by decide))
          · simp (disch := omega) only [xu_ne]; exact q1
          · simp (disch := omega) only [xu_eq]; omega
          · simp (disch := omega) only [xu_ne]; exact q3
          · rw [xu_eq] at b
            simp (disch := omega) only [xu_cn, xu_ne]
            exact q4 q a (by omega)
          · simp (disch := omega) only [xu_ne]; exact q5
          · simp (disch := omega) only [xu_ne]; exact qb j hj
        · refine RBen_of r2 i1 (xu_oth (by decide)) (xu_oth (by decide)) (xu_oth (by decide)) (xu_oth (by decide)) (xu_oth (by decide)) (fun i a b => es i (by omega))
  · refine A_ref hR ⟨-3, inI_s (by omega) (by omega), ?_, ?_⟩
    · exact sg_X7_drop_0 (by omega) (C_anyDone (by omega) (fun z => ⟨rfl, keepC_rf h⟩) (fun _ => by omega))
    · exact sg_X8_drop_0 ⟨inI_s (by omega) (by omega), fun _ => ⟨rfl, keepM_rf m⟩, by omega⟩
