/-! API: lists and the tape -/
theorem Rel.rowsU {h m h' m' : xH} (hR : Rel h m) (kC : kp [51, 52] h h') (kM : kp [17, 19] m m') (hs : ∀ l, 0 ≤ l → l < 4 → h' 51 l = m' 17 l ∧ (-1 ≤ m' 17 l ∧ m' 17 l ≤ 30) ∧ ∀ i, 0 ≤ i → i < m' 17 l → h' 52 (l * 30 + i) = m' 19 (30 * l + i) ∧ inL (m' 19 (30 * l + i))) : Rel h' m' := by
  obtain ⟨⟨i1, i2, i3, i4, i5, i6, i7, i8, i9⟩, r1, r2, r3, r4, r5, r6, r7⟩ := hR
  refine ⟨?_, ?_⟩
  · unfold InvM
    rw [kM 0 (by decide), kM 1 (by decide), kM 2 (by decide), kM 14 (by decide), kM 15 (by decide), kM 20 (by decide)]
    exact ⟨i1, i2, i3, i4, i5, i6, fun l a b => (hs l a b).2.1, fun l i a b c d => ((hs l a b).2.2 i c d).2, i9⟩
  · unfold RelC
    rw [kM 0 (by decide), kM 1 (by decide), kM 2 (by decide), kM 14 (by decide), kM 15 (by decide), kC 0 (by decide), kC 44 (by decide), kC 45 (by decide), kC 53 (by decide)]
    refine ⟨r1.congr (kC 1 (by decide)) (kC 2 (by decide)) (kC 3 (by decide)) (kC 4 (by decide)) (kC 5 (by decide)), r2.congr (kC 6 (by decide)) (kC 7 (by decide)) (kC 8 (by decide)) (kC 9 (by decide)) (kC 10 (by decide)), ⟨r3.1, fun z => ?_⟩, r4, r5, fun l a b => ⟨(hs l a b).1, fun i c d => ((hs l a b).2.2 i c d).1⟩, r7.congr (kC 54 (by decide))⟩
    obtain ⟨a, b⟩ := r3.2 z
    exact ⟨a.congr (kC 11 (by decide)) (kC 12 (by decide)) (kC 13 (by decide)) (kC 14 (by decide)) (kC 15 (by decide)), b.congr (kC 16 (by decide)) (kC 17 (by decide)) (kC 18 (by decide)) (kC 19 (by decide)) (kC 20 (by decide))⟩
theorem Rel.tapeU {h m h' m' : xH} (hR : Rel h m) (kC : kp [44, 45] h h') (kM : kp [0, 14] m m') (e3 : m' 0 3 = m 0 3) (e23 : m' 0 23 = m 0 23) (e22 : h' 44 1 = m' 0 22) (b22 : 0 ≤ m' 0 22 ∧ m' 0 22 ≤ 120) (hs : ∀ i, 0 ≤ i → i < m' 0 22 → h' 45 i = m' 14 i ∧ 1 ≤ m' 14 i ∧ m' 14 i ≤ 127) : Rel h' m' := by
  obtain ⟨⟨i1, i2, i3, i4, i5, i6, i7, i8, i9⟩, r1, r2, r3, r4, r5, r6, r7⟩ := hR
  refine ⟨?_, ?_⟩
  · unfold InvM
    rw [e3, e23, kM 1 (by decide), kM 2 (by decide), kM 15 (by decide), kM 17 (by decide), kM 19 (by decide), kM 20 (by decide)]
    exact ⟨i1, i2, b22, fun i a b => (hs i a b).2, i5, i6, i7, i8, i9⟩
  · unfold RelC
    rw [e3, e23, kM 1 (by decide), kM 2 (by decide), kM 15 (by decide), kM 17 (by decide), kM 19 (by decide), kC 0 (by decide), kC 51 (by decide), kC 52 (by decide), kC 53 (by decide)]
    refine ⟨r1.congr (kC 1 (by decide)) (kC 2 (by decide)) (kC 3 (by decide)) (kC 4 (by decide)) (kC 5 (by decide)), r2.congr (kC 6 (by decide)) (kC 7 (by decide)) (kC 8 (by decide)) (kC 9 (by decide)) (kC 10 (by decide)), ⟨r3.1, fun z => ?_⟩, ⟨e22, fun i a b => (hs i a b).1⟩, r5, r6, r7.congr (kC 54 (by decide))⟩
    obtain ⟨a, b⟩ := r3.2 z
    exact ⟨a.congr (kC 11 (by decide)) (kC 12 (by decide)) (kC 13 (by decide)) (kC 14 (by decide)) (kC 15 (by decide)), b.congr (kC 16 (by decide)) (kC 17 (by decide)) (kC 18 (by decide)) (kC 19 (by decide)) (kC 20 (by decide))⟩
/-- an API method that is refused -/
theorem A_ref {d : Nat} {mC mM : xM} {as : List xV} {h m : xH} (hR : Rel h m) (H : QId d mC mM as h m) : ∃ (r : Int) (PC PM : xH → Prop), inI r ∧ cI wdC d mC (.inr (.inr 0) :: as) h (fun n h' => n = r ∧ PC h') ∧ cI wdM d mM (.inr (.inr 0) :: as) m (fun n m' => n = r ∧ PM m') ∧ ∀ h' m', PC h' → PM m' → Rel h' m' := by
  obtain ⟨r, h1, h2, h3⟩ := H
  exact ⟨r, keepC h, keepM m, h1, h2, h3, fun h' m' a b => hR.keep a b⟩
theorem A_feed (c : Int) (hc : inI c) : AI mX7_feed mX8_feed [.inl c] := by
  intro h m hR
  obtain ⟨⟨i1, i2, i3, i4, i5, i6, i7, i8, i9⟩, r1, r2, r3, r4, r5, r6, r7⟩ := id hR
  by_cases c1 : 1 ≤ c ∧ c ≤ 127
  · by_cases c2 : m 0 22 = 120
    · refine A_ref hR ⟨-4, inI_s (by omega) (by omega), ?_, ?_⟩
      · exact sg_X7_feed_0 (by omega) ⟨hc, by omega, fun _ => ⟨hc, fun _ => sg_X5_append_0 ⟨inI_s (by omega) (by omega), by omega, fun _ => Or.inr ⟨rfl, rfl, keepC_rf h⟩⟩, by omega⟩⟩
      · exact sg_X8_feed_0 (by omega) ⟨hc, M_isIn (inL_I hc) (by unfold inL; omega) (by unfold inL; omega) (fun _ => ⟨inI_s (by omega) (by omega), fun z => absurd c2 z, fun _ => ⟨rfl, keepM_rf m⟩⟩) (fun z => absurd c1 z)⟩
    · refine ⟨m 0 22 + 1, fun h' => h' = xu (xu h 45 (h 44 1) c) 44 1 (h 44 1 + 1), fun m' => m' = xu (xu m 14 (m 0 22) c) 0 22 (m 0 22 + 1), inI_s (by omega) (by omega), ?_, ?_, ?_⟩
      · refine sg_X7_feed_0 (by omega) ⟨hc, by omega, fun _ => ⟨hc, fun _ => sg_X5_append_0 ⟨inI_s (by omega) (by omega), fun _ => ⟨by omega, Or.inl ⟨rfl, ?_, rfl⟩⟩, by omega⟩, by omega⟩⟩
        rw [xu_eq]; omega
      · exact sg_X8_feed_0 (by omega) ⟨hc, M_isIn (inL_I hc) (by unfold inL; omega) (by unfold inL; omega) (fun _ => ⟨inI_s (by omega) (by omega), fun _ => ⟨by omega, rfl, rfl⟩, fun z => absurd z c2⟩) (fun z => absurd c1 z)⟩
      · intro h' m' eh em
        subst eh; subst em
        refine hR.tapeU (kp_tr (kp_xu (by decide)) (kp_xu (by decide))) (kp_tr (kp_xu (by decide)) (kp_xu (by decide))) ?_ ?_ ?_ ?_ ?_
        · rw [xu_ne (by omega), xu_cn (by decide)]
        · rw [xu_ne (by omega), xu_cn (by decide)]
        · rw [xu_eq, xu_eq]; omega
        · rw [xu_eq]; omega
        · intro i a b
          rw [xu_eq] at b
          rw [xu_cn (c' := 45) (c := 44) (by decide), xu_cn (c' := 14) (c := 0) (by decide), r4.1]
          by_cases e : i = m 0 22
          · rw [e, xu_eq, xu_eq]; exact ⟨rfl, c1⟩
          · rw [xu_ne e, xu_ne e]; exact ⟨r4.2 i a (by omega), i4 i a (by omega)⟩
  · refine A_ref hR ⟨-2, inI_s (by omega) (by omega), ?_, ?_⟩
    · exact sg_X7_feed_0 (by omega) ⟨hc, fun _ => ⟨rfl, keepC_rf h⟩, fun _ => ⟨hc, by omega, fun _ => ⟨rfl, keepC_rf h⟩⟩⟩
    · exact sg_X8_feed_0 (by omega) ⟨hc, M_isIn (inL_I hc) (by unfold inL; omega) (by unfold inL; omega) (fun z => absurd z c1) (fun _ => ⟨rfl, keepM_rf m⟩)⟩
theorem A_clear : AI mX7_clear mX8_clear [] := by
  intro h m hR
  obtain ⟨⟨i1, i2, i3, i4, i5, i6, i7, i8, i9⟩, r1, r2, r3, r4, r5, r6, r7⟩ := id hR
  refine ⟨m 0 22, fun h' => h' = xu h 44 1 0, fun m' => m' = xu m 0 22 0, inI_s (by omega) (by omega), ?_, ?_, ?_⟩
  · exact sg_X7_clear_0 ⟨r4.1, rfl⟩
  · exact sg_X8_clear_0 ⟨rfl, rfl⟩
  · intro h' m' eh em
    subst eh; subst em
    refine hR.tapeU (kp_xu (by decide)) (kp_xu (by decide)) (xu_ne (by omega)) (xu_ne (by omega)) ?_ ?_ ?_
    · rw [xu_eq, xu_eq]
    · rw [xu_eq]; omega
    · intro i a b; rw [xu_eq] at b; omega
theorem C_begin4 {d : Nat} {l n : Int} {h : xH} {Q : xH → Prop} (hd : 1 ≤ d) (hl : 0 ≤ l ∧ l < 4) (hn : 0 ≤ n ∧ n ≤ 30) (hq : ∀ h', kp [51, 52] h h' → h' 51 = up1 (h 51) l n → (∀ j, h' 52 j = if l * 30 ≤ j ∧ j < l * 30 + n then 0 else h 52 j) → Q h') : cV wdC d mX4_begin [.inr (.inr 50), .inl l, .inl n] h Q := by
  have lp : ∀ i : Int, i ≤ n → 0 ≤ i → ∀ h1 : xH, kp [51, 52] h h1 → h1 51 = up1 (h 51) l n → (∀ j, h1 52 j = if l * 30 ≤ j ∧ j < l * 30 + i then 0 else h 52 j) → gV wdC d mX4_begin 9 [some (.inr (.inr 50)), some (.inl l), some (.inl n), some (.inl i)] h1 Q := by
    refine dn ?_ ?_
    · intro _ h1 k e hj
      exact sg_X4_begin_9 (by omega) ⟨⟨inI_s (by omega) (by omega), inI_s (by omega) (by omega)⟩, fun _ => hq h1 k e hj, fun z => absurd z (by omega)⟩
    · intro i hi ih i0 h1 k e hj
      refine sg_X4_begin_9 (by omega) ⟨⟨inI_s (by omega) (by omega), inI_s (by omega) (by omega)⟩, fun z => absurd z (by omega), fun _ => sg_X4_put_0 ⟨by omega, ih (by omega) _ (kp_tr k (kp_xu (by decide))) (by rw [xu_oth (by decide)]; exact e) (fun j => ?_)⟩⟩
      by_cases z : j = l * 30 + i
      · rw [z, xu_eq, if_pos (by omega)]
      · rw [xu_ne z, hj]
        by_cases w : l * 30 ≤ j ∧ j < l * 30 + i
        · rw [if_pos w, if_pos (by omega)]
        · rw [if_neg w, if_neg (by omega)]
  exact sg_X4_begin_0 ⟨hl, lp 0 (by omega) (by omega) _ (kp_xu (by decide)) (xu_row _ _ _ _) (fun j => by rw [xu_cn (by decide), if_neg (by omega)])⟩
theorem A_list (l n : Int) (hl : inI l) (hn : inI n) : AI mX7_list mX8_list [.inl l, .inl n] := by
  intro h m hR
  obtain ⟨⟨i1, i2, i3, i4, i5, i6, i7, i8, i9⟩, r1, r2, r3, r4, r5, r6, r7⟩ := id hR
  by_cases c1 : 0 ≤ l ∧ l < 4
  · by_cases c2 : n ≤ 30
    · by_cases c3 : 0 ≤ n
      · refine ⟨1, fun h' => kp [51, 52] h h' ∧ h' 51 = up1 (h 51) l n ∧ (∀ j, h' 52 j = if l * 30 ≤ j ∧ j < l * 30 + n then 0 else h 52 j), fun m' => kp [17, 19] m m' ∧ m' 17 = up1 (m 17) l n ∧ (∀ j, m' 19 j = if 30 * l ≤ j ∧ j < 30 * l + 30 then 0 else m 19 j), inI_s (by omega) (by omega), ?_, ?_, ?_⟩
        · exact sg_X7_list_0 (by omega) (C_isList hl (fun _ => ⟨hn, fun _ => ⟨hn, fun _ => C_begin4 (by omega) c1 ⟨c3, c2⟩ (fun h' a b c => ⟨rfl, a, b, c⟩), by omega⟩, by omega⟩) (fun z => absurd c1 z))
        · refine sg_X8_list_0 (by omega) (M_isList (by omega) hl (fun _ => ⟨hn, fun _ => ⟨hn, fun _ => ⟨by omega, ?_⟩, by omega⟩, by omega⟩) (fun z => absurd c1 z))
          have lp : ∀ i : Int, i ≤ 30 → 0 ≤ i → ∀ h1 : xH, kp [17, 19] m h1 → h1 17 = up1 (m 17) l n → (∀ j, h1 19 j = if 30 * l ≤ j ∧ j < 30 * l + i then 0 else m 19 j) → gI wdM 30 mX8_list 34 [some (.inr (.inr 0)), some (.inl l), none, some (.inl i)] h1 (fun n' m' => n' = 1 ∧ kp [17, 19] m m' ∧ m' 17 = up1 (m 17) l n ∧ (∀ j, m' 19 j = if 30 * l ≤ j ∧ j < 30 * l + 30 then 0 else m 19 j)) := by
            refine dn ?_ ?_
            · intro _ h1 k e hj
              exact sg_X8_list_34 ⟨inI_s (by omega) (by omega), fun _ => ⟨rfl, k, e, hj⟩, fun z => absurd z (by omega)⟩
            · intro i hi ih i0 h1 k e hj
              refine sg_X8_list_34 ⟨inI_s (by omega) (by omega), fun z => absurd z (by omega), fun _ => ⟨by omega, ih (by omega) _ (kp_tr k (kp_xu (by decide))) (by rw [xu_oth (by decide)]; exact e) (fun j => ?_)⟩⟩
              by_cases z : j = 30 * l + i
              · rw [z, xu_eq, if_pos (by omega)]
              · rw [xu_ne z, hj]
                by_cases w : 30 * l ≤ j ∧ j < 30 * l + i
                · rw [if_pos w, if_pos (by omega)]
                · rw [if_neg w, if_neg (by omega)]
          exact lp 0 (by omega) (by omega) _ (kp_xu (by decide)) (xu_row _ _ _ _) (fun j => by rw [xu_cn (by decide), if_neg (by omega)])
        · intro h' m' ⟨a1, a2, a3⟩ ⟨b1, b2, b3⟩
          refine hR.rowsU a1 b1 (fun q q0 q1 => ?_)
          rw [a2, b2]
          have d1 := r6 q q0 q1
          have d2 := i7 q q0 q1
          by_cases z : q = l
          · rw [z, up1_eq, up1_eq]
            refine ⟨rfl, by omega, fun i x y => ?_⟩
            rw [a3, b3, if_pos (by omega), if_pos (by omega)]
            exact ⟨rfl, by unfold inL; omega⟩
          · rw [up1_ne z, up1_ne z]
            refine ⟨d1.1, d2, fun i x y => ?_⟩
            rw [a3, b3, if_neg (by omega), if_neg (by omega)]
            exact ⟨d1.2 i x y, i8 q i q0 q1 x y⟩
      · refine A_ref hR ⟨-14, inI_s (by omega) (by omega), ?_, ?_⟩
        · exact sg_X7_list_0 (by omega) (C_isList hl (fun _ => ⟨hn, fun _ => ⟨hn, by omega, fun _ => ⟨rfl, keepC_rf h⟩⟩, by omega⟩) (fun z => absurd c1 z))
        · exact sg_X8_list_0 (by omega) (M_isList (by omega) hl (fun _ => ⟨hn, fun _ => ⟨hn, by omega, fun _ => ⟨rfl, keepM_rf m⟩⟩, by omega⟩) (fun z => absurd c1 z))
    · refine A_ref hR ⟨-2, inI_s (by omega) (by omega), ?_, ?_⟩
      · exact sg_X7_list_0 (by omega) (C_isList hl (fun _ => ⟨hn, by omega, fun _ => ⟨rfl, keepC_rf h⟩⟩) (fun z => absurd c1 z))
      · exact sg_X8_list_0 (by omega) (M_isList (by omega) hl (fun _ => ⟨hn, by omega, fun _ => ⟨rfl, keepM_rf m⟩⟩) (fun z => absurd c1 z))
  · refine A_ref hR ⟨-1, inI_s (by omega) (by omega), ?_, ?_⟩
    · exact sg_X7_list_0 (by omega) (C_isList hl (fun z => absurd z c1) (fun _ => ⟨rfl, keepC_rf h⟩))
    · exact sg_X8_list_0 (by omega) (M_isList (by omega) hl (fun z => absurd z c1) (fun _ => ⟨rfl, keepM_rf m⟩))
theorem A_set (l i v : Int) (hl : inI l) (hi : inI i) (hv : inL v) : AI mX7_set mX8_set [.inl l, .inl i, .inr (.inl v)] := by
  intro h m hR
  obtain ⟨⟨i1, i2, i3, i4, i5, i6, i7, i8, i9⟩, r1, r2, r3, r4, r5, r6, r7⟩ := id hR
  by_cases c1 : 0 ≤ l ∧ l < 4
  · have a := i7 l c1.1 c1.2
    have b := r6 l c1.1 c1.2
    by_cases c2 : 0 ≤ m 17 l
    · by_cases c3 : 0 ≤ i ∧ i < m 17 l
      · refine ⟨1, fun h' => h' = xu h 52 (l * 30 + i) v, fun m' => m' = xu m 19 (30 * l + i) v, inI_s (by omega) (by omega), ?_, ?_, ?_⟩
        · exact sg_X7_set_0 (by omega) (C_isList hl (fun _ => C_holds c1 (by omega) (fun _ => C_hasPlace c1 hi (by omega) (fun _ => sg_X4_put_0 ⟨by omega, rfl, rfl⟩) (fun z => absurd (by omega) z)) (by omega)) (fun z => absurd c1 z))
        · exact sg_X8_set_0 (by omega) (M_isList (by omega) hl (fun _ => ⟨by omega, inI_s (by omega) (by omega), fun _ => ⟨hi, by omega, inI_s (by omega) (by omega), M_isIn (inL_I hi) (by unfold inL; omega) (by unfold inL; omega) (fun _ => ⟨by omega, rfl, rfl⟩) (fun z => absurd (by omega) z)⟩, by omega⟩) (fun z => absurd c1 z))
        · intro h' m' eh em
          subst eh; subst em
          refine hR.rowsU (kp_xu (by decide)) (kp_xu (by decide)) (fun q q0 q1 => ?_)
          rw [xu_cn (by decide), xu_cn (by decide)]
          have d1 := r6 q q0 q1
          have d2 := i7 q q0 q1
          refine ⟨d1.1, d2, fun j x y => ?_⟩
          by_cases z : q * 30 + j = l * 30 + i
          · rw [z, xu_eq, show 30 * q + j = 30 * l + i by omega, xu_eq]; exact ⟨rfl, hv⟩
          · rw [xu_ne z, xu_ne (by omega)]; exact ⟨d1.2 j x y, i8 q j q0 q1 x y⟩
      · refine A_ref hR ⟨-13, inI_s (by omega) (by omega), ?_, ?_⟩
        · exact sg_X7_set_0 (by omega) (C_isList hl (fun _ => C_holds c1 (by omega) (fun _ => C_hasPlace c1 hi (by omega) (fun z => absurd (by omega) c3) (fun z => ⟨rfl, keepC_rf h⟩)) (by omega)) (fun z => absurd c1 z))
        · exact sg_X8_set_0 (by omega) (M_isList (by omega) hl (fun _ => ⟨by omega, inI_s (by omega) (by omega), fun _ => ⟨hi, by omega, inI_s (by omega) (by omega), M_isIn (inL_I hi) (by unfold inL; omega) (by unfold inL; omega) (fun z => absurd (by omega) c3) (fun z => ⟨rfl, keepM_rf m⟩)⟩, by omega⟩) (fun z => absurd c1 z))
    · refine A_ref hR ⟨-11, inI_s (by omega) (by omega), ?_, ?_⟩
      · exact sg_X7_set_0 (by omega) (C_isList hl (fun _ => C_holds c1 (by omega) (by omega) (fun _ => ⟨rfl, keepC_rf h⟩)) (fun z => absurd c1 z))
      · exact sg_X8_set_0 (by omega) (M_isList (by omega) hl (fun _ => ⟨by omega, inI_s (by omega) (by omega), by omega, fun _ => ⟨rfl, keepM_rf m⟩⟩) (fun z => absurd c1 z))
  · refine A_ref hR ⟨-1, inI_s (by omega) (by omega), ?_, ?_⟩
    · exact sg_X7_set_0 (by omega) (C_isList hl (fun z => absurd z c1) (fun _ => ⟨rfl, keepC_rf h⟩))
    · exact sg_X8_set_0 (by omega) (M_isList (by omega) hl (fun z => absurd z c1) (fun _ => ⟨rfl, keepM_rf m⟩))
theorem A_lay (l i : Int) (hl : inI l) (hi : inI i) : AI mX7_lay mX8_lay [.inl l, .inl i] := by
  intro h m hR
  obtain ⟨⟨i1, i2, i3, i4, i5, i6, i7, i8, i9⟩, r1, r2, r3, r4, r5, r6, r7⟩ := id hR
  have w1 := i1.1.1
  have e0 := r1.1
  obtain ⟨n1, n2, n3⟩ := th_now i1
  by_cases c1 : 0 ≤ l ∧ l < 4
  · have a := i7 l c1.1 c1.2
    have b := r6 l c1.1 c1.2
    by_cases c2 : 0 ≤ m 17 l
    · by_cases c3 : 0 ≤ i
      · -- c: how many find a place
        obtain ⟨c, hc⟩ : ∃ c : Int, c = min (2 * m 1 0) (max (m 17 l - i) 0) := ⟨_, rfl⟩
        have hio : inI (m 17 l - i) := by unfold inI at hi ⊢; omega
        refine ⟨if i + 2 * m 1 0 ≤ m 17 l then 2 * m 1 0 else -13, fun h' => kp [51, 52] h h' ∧ h' 51 = h 51 ∧ (∀ j, h' 52 j = if l * 30 + i ≤ j ∧ j < l * 30 + i + c then m 1 (157 + (j - (l * 30 + i))) else h 52 j), fun m' => kp [17, 19] m m' ∧ m' 17 = m 17 ∧ (∀ j, m' 19 j = if 30 * l + i ≤ j ∧ j < 30 * l + i + c then m 1 (157 + (j - (30 * l + i))) else m 19 j), by split <;> exact inI_s (by omega) (by omega), ?_, ?_, ?_⟩
        · refine sg_X7_lay_0 (by omega) (C_isList hl (fun _ => C_holds c1 (by omega) (fun _ => ⟨hi, fun _ => ?_, by omega⟩) (by omega)) (fun z => absurd c1 z))
          rw [e0]
          have lp : ∀ t : Int, t ≤ c → 0 ≤ t → ∀ h1 : xH, kp [51, 52] h h1 → h1 51 = h 51 → (∀ j, h1 52 j = if l * 30 + i ≤ j ∧ j < l * 30 + i + t then m 1 (157 + (j - (l * 30 + i))) else h 52 j) → gI wdC 30 mX7_lay 47 [some (.inr (.inr 0)), some (.inl l), some (.inl i), some (.inl (2 * m 1 0)), some (.inl t)] h1 (fun n h' => n = (if i + 2 * m 1 0 ≤ m 17 l then 2 * m 1 0 else -13) ∧ kp [51, 52] h h' ∧ h' 51 = h 51 ∧ (∀ j, h' 52 j = if l * 30 + i ≤ j ∧ j < l * 30 + i + c then m 1 (157 + (j - (l * 30 + i))) else h 52 j)) := by
            refine dn ?_ ?_
            · intro _ h1 k e hj
              refine sg_X7_lay_47 (by omega) ⟨⟨inI_s (by omega) (by omega), inI_s (by omega) (by omega)⟩, fun z => ⟨?_, k, e, hj⟩, fun z => ⟨c1, ⟨inI_s (by omega) (by omega), by rw [e, b.1]; exact hio⟩, fun z2 => ?_, fun z2 => ⟨?_, k, e, hj⟩⟩⟩
              · rw [if_pos (by omega)]
              · rw [e, b.1] at z2; omega
              · rw [if_neg (by omega)]
            · intro t ht ih t0 h1 k e hj
              have b7 := (r2.1 t t0 (by omega)).1
              have b8 := n1 t t0 (by omega)
              have e7 : h1 7 = h 7 := k 7 (by decide)
              refine sg_X7_lay_47 (by omega) ⟨⟨inI_s (by omega) (by omega), inI_s (by omega) (by omega)⟩, fun z => absurd z (by omega), fun z => ⟨c1, ⟨inI_s (by omega) (by omega), by rw [e, b.1]; exact hio⟩, fun z2 => ⟨by omega, by rw [e7, b7]; exact inI_s (by omega) (by omega), sg_X4_put_0 ⟨by rw [e, b.1] at z2; omega, ih (by omega) _ (kp_tr k (kp_xu (by decide))) (by rw [xu_oth (by decide)]; exact e) (fun j => ?_)⟩⟩, fun z2 => absurd z2 (by rw [e, b.1]; omega)⟩⟩
              by_cases z3 : j = l * 30 + (i + t)
              · rw [z3, xu_eq, if_pos (by omega), e7, b7, show l * 30 + (i + t) - (l * 30 + i) = t by omega]
              · rw [xu_ne z3, hj]
                by_cases w : l * 30 + i ≤ j ∧ j < l * 30 + i + t
                · rw [if_pos w, if_pos (by omega)]
                · rw [if_neg w, if_neg (by omega)]
          exact lp 0 (by omega) (by omega) h (kp_rf _ _) rfl (fun j => by rw [if_neg (by omega)])
        · refine sg_X8_lay_0 (by omega) (M_isList (by omega) hl (fun _ => ⟨by omega, inI_s (by omega) (by omega), fun _ => ⟨hi, fun _ => ?_, by omega⟩, by omega⟩) (fun z => absurd c1 z))
          have lp : ∀ t : Int, t ≤ c → 0 ≤ t → ∀ h1 : xH, kp [17, 19] m h1 → h1 17 = m 17 → (∀ j, h1 19 j = if 30 * l + i ≤ j ∧ j < 30 * l + i + t then m 1 (157 + (j - (30 * l + i))) else m 19 j) → gI wdM 30 mX8_lay 40 [some (.inr (.inr 0)), some (.inl l), some (.inl i), some (.inl (2 * m 1 0)), some (.inl t)] h1 (fun n m' => n = (if i + 2 * m 1 0 ≤ m 17 l then 2 * m 1 0 else -13) ∧ kp [17, 19] m m' ∧ m' 17 = m 17 ∧ (∀ j, m' 19 j = if 30 * l + i ≤ j ∧ j < 30 * l + i + c then m 1 (157 + (j - (30 * l + i))) else m 19 j)) := by
            refine dn ?_ ?_
            · intro _ h1 k e hj
              refine sg_X8_lay_40 ⟨⟨inI_s (by omega) (by omega), inI_s (by omega) (by omega)⟩, fun z => ⟨c1, ⟨hi, by rw [e]; exact inI_s (by omega) (by omega)⟩, fun z2 => ⟨?_, k, e, hj⟩, fun z2 => ⟨?_, k, e, hj⟩⟩, fun z => ⟨c1, ⟨inI_s (by omega) (by omega), by rw [e]; exact hio⟩, fun _ => ⟨c1, ⟨hi, by rw [e]; exact inI_s (by omega) (by omega)⟩, fun z2 => ⟨?_, k, e, hj⟩, fun z2 => ⟨?_, k, e, hj⟩⟩, fun z2 => ?_⟩⟩
              · rw [e] at z2; rw [if_pos (by omega)]
              · rw [e] at z2; rw [if_neg (by omega)]
              · rw [e] at z2; rw [if_pos (by omega)]
              · rw [e] at z2; rw [if_neg (by omega)]
              · rw [e] at z2; omega
            · intro t ht ih t0 h1 k e hj
              have b8 := n1 t t0 (by omega)
              have e7 : h1 1 = m 1 := k 1 (by decide)
              refine sg_X8_lay_40 ⟨⟨inI_s (by omega) (by omega), inI_s (by omega) (by omega)⟩, fun z => absurd z (by omega), fun z => ⟨c1, ⟨inI_s (by omega) (by omega), by rw [e]; exact hio⟩, fun z2 => absurd z2 (by rw [e]; omega), fun z2 => ⟨by omega, by rw [e7]; exact inI_s (by omega) (by omega), by rw [e] at z2; omega, ih (by omega) _ (kp_tr k (kp_xu (by decide))) (by rw [xu_oth (by decide)]; exact e) (fun j => ?_)⟩⟩⟩
              by_cases z3 : j = 30 * l + i + t
              · rw [z3, xu_eq, if_pos (by omega), e7, show 30 * l + i + t - (30 * l + i) = t by omega]
              · rw [xu_ne z3, hj]
                by_cases w : 30 * l + i ≤ j ∧ j < 30 * l + i + t
                · rw [if_pos w, if_pos (by omega)]
                · rw [if_neg w, if_neg (by omega)]
          exact lp 0 (by omega) (by omega) m (kp_rf _ _) rfl (fun j => by rw [if_neg (by omega)])
        · intro h' m' ⟨a1, a2, a3⟩ ⟨b1, b2, b3⟩
          refine hR.rowsU a1 b1 (fun q q0 q1 => ?_)
          rw [a2, b2]
          have d1 := r6 q q0 q1
          have d2 := i7 q q0 q1
          refine ⟨d1.1, d2, fun j x y => ?_⟩
          rw [a3, b3]
          by_cases z : l * 30 + i ≤ q * 30 + j ∧ q * 30 + j < l * 30 + i + c
          · rw [if_pos z, if_pos (by omega), show 30 * q + j - (30 * l + i) = q * 30 + j - (l * 30 + i) by omega]
            have := n1 (q * 30 + j - (l * 30 + i)) (by omega) (by omega)
            exact ⟨rfl, by unfold inL; omega⟩
          · rw [if_neg z, if_neg (by omega)]; exact ⟨d1.2 j x y, i8 q j q0 q1 x y⟩
      · refine A_ref hR ⟨-13, inI_s (by omega) (by omega), ?_, ?_⟩
        · exact sg_X7_lay_0 (by omega) (C_isList hl (fun _ => C_holds c1 (by omega) (fun _ => ⟨hi, by omega, fun _ => ⟨rfl, keepC_rf h⟩⟩) (by omega)) (fun z => absurd c1 z))
        · exact sg_X8_lay_0 (by omega) (M_isList (by omega) hl (fun _ => ⟨by omega, inI_s (by omega) (by omega), fun _ => ⟨hi, by omega, fun _ => ⟨rfl, keepM_rf m⟩⟩, by omega⟩) (fun z => absurd c1 z))
    · refine A_ref hR ⟨-11, inI_s (by omega) (by omega), ?_, ?_⟩
      · exact sg_X7_lay_0 (by omega) (C_isList hl (fun _ => C_holds c1 (by omega) (by omega) (fun _ => ⟨rfl, keepC_rf h⟩)) (fun z => absurd c1 z))
      · exact sg_X8_lay_0 (by omega) (M_isList (by omega) hl (fun _ => ⟨by omega, inI_s (by omega) (by omega), by omega, fun _ => ⟨rfl, keepM_rf m⟩⟩) (fun z => absurd c1 z))
  · refine A_ref hR ⟨-1, inI_s (by omega) (by omega), ?_, ?_⟩
    · exact sg_X7_lay_0 (by omega) (C_isList hl (fun z => absurd z c1) (fun _ => ⟨rfl, keepC_rf h⟩))
    · exact sg_X8_lay_0 (by omega) (M_isList (by omega) hl (fun z => absurd z c1) (fun _ => ⟨rfl, keepM_rf m⟩))
