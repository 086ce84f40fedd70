/-! telling one part: only the pattern changes -/
def ASd (d : Nat) (mC mM : xM) (as : List xV) : Prop := ∀ h m : xH, Rel h m → ∃ (r : Int) (PC PM : xH → Prop), inI r ∧ cI wdC d mC (.inr (.inr 0) :: as) h (fun n h' => n = r ∧ PC h') ∧ cI wdM d mM (.inr (.inr 0) :: as) m (fun n m' => n = r ∧ PM m') ∧ (∀ h' m', PC h' → PM m' → Rel h' m') ∧ (∀ h', PC h' → kp [1, 2, 3, 4, 5] h h') ∧ (∀ m', PM m' → kp [1] m m') ∧ (0 < m 1 4 → r < 0)
theorem S_ref {d : Nat} {mC mM : xM} {as : List xV} {h m : xH} (hR : Rel h m) (H : ∃ r : Int, inI r ∧ r < 0 ∧ cI wdC d mC (.inr (.inr 0) :: as) h (fun n h' => n = r ∧ h' = h) ∧ cI wdM d mM (.inr (.inr 0) :: as) m (fun n m' => n = r ∧ m' = m)) : ∃ (r : Int) (PC PM : xH → Prop), inI r ∧ cI wdC d mC (.inr (.inr 0) :: as) h (fun n h' => n = r ∧ PC h') ∧ cI wdM d mM (.inr (.inr 0) :: as) m (fun n m' => n = r ∧ PM m') ∧ (∀ h' m', PC h' → PM m' → Rel h' m') ∧ (∀ h', PC h' → kp [1, 2, 3, 4, 5] h h') ∧ (∀ m', PM m' → kp [1] m m') ∧ (0 < m 1 4 → r < 0) := by
  obtain ⟨r, h1, h2, h3, h4⟩ := H
  exact ⟨r, fun h' => h' = h, fun m' => m' = m, h1, h3, h4, fun h' m' a b => by rw [a, b]; exact hR, fun h' a => by rw [a]; exact kp_rf _ _, fun m' a => by rw [a]; exact kp_rf _ _, fun _ => h2⟩
theorem S_fill {d : Nat} (hd : 12 ≤ d) (k v : Int) (hk : inI k) (hv : inI v) : ASd d mX7_fill mX8_fill [.inl k, .inl v] := by
  intro h m hR
  obtain ⟨⟨i1, i2, i3, i4, i5, i6, i7, i8, i9⟩, r1, r2, r3, r4, r5, r6⟩ := id hR
  obtain ⟨w1, w2, w3, w4, w5, w6, w7, w8⟩ := id i1.1
  have v2 := i1.2.2.1
  obtain ⟨q1, q2, q3, q4, ⟨f, q5, qf, qb⟩, q6, q7, q8⟩ := id r1
  have e4 := r2.2.2.1
  by_cases c1 : 0 ≤ k ∧ k < m 1 0
  · by_cases c3 : m 1 4 = 0
    · have a := w6 k c1.1 (by omega)
      have eb := qb k.toNat (by omega)
      rw [show ((k.toNat : Nat) : Int) = k by omega] at eb
      refine ⟨m 1 (125 + k), fun h' => h' = xu h 1 1 (fset f k.toNat (decide (v ≠ 0)) : Nat), fun m' => m' = xu m 1 (125 + k) (b2i (decide (v ≠ 0))), inI_s (by omega) (by omega), ?_, ?_, ?_, fun h' e => by rw [e]; exact kp_xu (by decide), fun m' e => by rw [e]; exact kp_xu (by decide), fun z => by omega⟩
      · exact sg_X7_fill_0 (by omega) (C_isSlot hk (by omega) (fun _ => C_anyDone (by omega) (fun z => by omega) (fun _ => C_fillAtFirst q5 qf (by omega) (by omega) hv ⟨eb.symm, rfl⟩)) (fun z => absurd (by omega) z))
      · refine sg_X8_fill_0 (by omega) (M_isSlot (by omega) hk (by omega) (fun _ => ⟨inI_s (by omega) (by omega), fun _ => ⟨hv, fun z => M_becomes (by omega) ⟨rfl, ?_⟩, fun z => M_becomes (by omega) ⟨rfl, ?_⟩⟩, by omega⟩) (fun z => absurd c1 z))
        · rw [decide_eq_false (fun q => q z)]; rfl
        · rw [decide_eq_true z]; rfl
      · intro h' m' eh em
        subst eh; subst em
        exact fill_rel hR c1 c3 q5 qf qb
    · refine S_ref hR ⟨-3, inI_s (by omega) (by omega), by omega, ?_, ?_⟩
      · exact sg_X7_fill_0 (by omega) (C_isSlot hk (by omega) (fun _ => C_anyDone (by omega) (fun z => ⟨rfl, rfl⟩) (fun _ => by omega)) (fun z => absurd (by omega) z))
      · exact sg_X8_fill_0 (by omega) (M_isSlot (by omega) hk (by omega) (fun _ => ⟨inI_s (by omega) (by omega), by omega, fun _ => ⟨rfl, rfl⟩⟩) (fun z => absurd c1 z))
  · refine S_ref hR ⟨-1, inI_s (by omega) (by omega), by omega, ?_, ?_⟩
    · exact sg_X7_fill_0 (by omega) (C_isSlot hk (by omega) (fun z => absurd (by omega) c1) (fun z => ⟨rfl, rfl⟩))
    · exact sg_X8_fill_0 (by omega) (M_isSlot (by omega) hk (by omega) (fun z => absurd z c1) (fun z => ⟨rfl, rfl⟩))
theorem S_pin {d : Nat} (hd : 12 ≤ d) (r k st : Int) (hr : inI r) (hk : inI k) (hst : inI st) : ASd d mX7_pin mX8_pin [.inl r, .inl k, .inl st] := by
  intro h m hR
  obtain ⟨⟨i1, i2, i3, i4, i5, i6, i7, i8, i9⟩, r1, r2, r3, r4, r5, r6⟩ := id hR
  obtain ⟨w1, w2, w3, w4, w5, w6, w7, w8⟩ := id i1.1
  have v2 := i1.2.2.1
  have e0 := r1.1
  have e4 := r2.2.2.1
  have c1d : Decidable (0 ≤ r ∧ r ≤ 99) := inferInstance
  by_cases c1 : 0 ≤ r ∧ r ≤ 99
  · by_cases c2 : 0 ≤ k ∧ k ≤ m 1 0 - 2
    · by_cases c5 : 0 ≤ st ∧ st ≤ 4
      · by_cases c3 : m 1 4 = 0
        · -- three ends
          have go : ∀ (a : Int) (PC PM : xH → Prop), ((∃ p, 0 ≤ p ∧ p < m 1 1 ∧ clash (m 1) r k p) → a = -3 ∧ PC h ∧ PM m) → ((∀ p, 0 ≤ p → p < m 1 1 → ¬ clash (m 1) r k p) → m 1 1 = 30 → a = -4 ∧ PC h ∧ PM m) → ((∀ p, 0 ≤ p → p < m 1 1 → ¬ clash (m 1) r k p) → m 1 1 < 30 → a = m 1 1 ∧ PC (xu (xu (xu (xu h 2 (m 1 1) r) 3 (m 1 1) k) 4 (m 1 1) st) 1 2 (m 1 1 + 1)) ∧ PM (xu (xu (xu (xu m 1 (5 + m 1 1) r) 1 (35 + m 1 1) k) 1 (65 + m 1 1) st) 1 1 (m 1 1 + 1))) →
              cI wdC d mX7_pin (.inr (.inr 0) :: [.inl r, .inl k, .inl st]) h (fun n h' => n = a ∧ PC h') ∧ cI wdM d mX8_pin (.inr (.inr 0) :: [.inl r, .inl k, .inl st]) m (fun n m' => n = a ∧ PM m') := by
            intro a PC PM x1 x2 x3
            refine ⟨?_, ?_⟩
            · exact sg_X7_pin_0 (by omega) (C_isRow hr (fun _ => C_isPinSlot hk (by omega) (fun _ => C_isStitch hst (fun _ => C_anyDone (by omega) (fun z => by omega) (fun _ => C_addPin (by omega) i1.1 r1 c1 (by omega) (fun z => ⟨(x1 z).1.symm, (x1 z).2.1⟩) (fun z y => ⟨(x2 z y).1.symm, (x2 z y).2.1⟩) (fun z y => ⟨(x3 z y).1.symm, (x3 z y).2.1⟩))) (fun z => absurd c5 z)) (fun z => absurd (by omega) z)) (fun z => absurd c1 z))
            · exact sg_X8_pin_0 (by omega) ⟨hr, M_isIn (inL_I hr) (by unfold inL; omega) (by unfold inL; omega) (fun _ => ⟨hk, inI_s (by omega) (by omega), M_isIn (inL_I hk) (by unfold inL; omega) (by unfold inL; omega) (fun _ => ⟨hst, M_isIn (inL_I hst) (by unfold inL; omega) (by unfold inL; omega) (fun _ => ⟨inI_s (by omega) (by omega), fun _ => M_pin60 (by omega) i1.1 c1 (by omega) (fun z => ⟨(x1 z).1.symm, (x1 z).2.2⟩) (fun z y => ⟨(x2 z y).1.symm, (x2 z y).2.2⟩) (fun z y => ⟨(x3 z y).1.symm, (x3 z y).2.2⟩), by omega⟩) (fun z => absurd c5 z)⟩) (fun z => absurd c2 z)⟩) (fun z => absurd c1 z)⟩
          by_cases cc : ∃ p, 0 ≤ p ∧ p < m 1 1 ∧ clash (m 1) r k p
          · obtain ⟨g1, g2⟩ := go (-3) (fun h' => h' = h) (fun m' => m' = m) (fun _ => ⟨rfl, rfl, rfl⟩) (fun z => by obtain ⟨p, a, b, c⟩ := cc; exact absurd c (z p a b)) (fun z => by obtain ⟨p, a, b, c⟩ := cc; exact absurd c (z p a b))
            exact S_ref hR ⟨-3, inI_s (by omega) (by omega), by omega, g1, g2⟩
          · have cn : ∀ p, 0 ≤ p → p < m 1 1 → ¬ clash (m 1) r k p := fun p a b c => cc ⟨p, a, b, c⟩
            by_cases c30 : m 1 1 = 30
            · obtain ⟨g1, g2⟩ := go (-4) (fun h' => h' = h) (fun m' => m' = m) (fun z => absurd z cc) (fun _ _ => ⟨rfl, rfl, rfl⟩) (fun _ z => by omega)
              exact S_ref hR ⟨-4, inI_s (by omega) (by omega), by omega, g1, g2⟩
            · obtain ⟨g1, g2⟩ := go (m 1 1) (fun h' => h' = xu (xu (xu (xu h 2 (m 1 1) r) 3 (m 1 1) k) 4 (m 1 1) st) 1 2 (m 1 1 + 1)) (fun m' => m' = xu (xu (xu (xu m 1 (5 + m 1 1) r) 1 (35 + m 1 1) k) 1 (65 + m 1 1) st) 1 1 (m 1 1 + 1)) (fun z => absurd z cc) (fun _ z => by omega) (fun _ _ => ⟨rfl, rfl, rfl⟩)
              exact ⟨m 1 1, _, _, inI_s (by omega) (by omega), g1, g2, fun h' m' a b => pin_rel hR c3 (by omega) c1 c2 c5 cn a b, fun h' e => by rw [e]; exact kp_tr (kp_tr (kp_tr (kp_xu (by decide)) (kp_xu (by decide))) (kp_xu (by decide))) (kp_xu (by decide)), fun m' e => by rw [e]; exact kp_tr (kp_tr (kp_tr (kp_xu (by decide)) (kp_xu (by decide))) (kp_xu (by decide))) (kp_xu (by decide)), fun z => by omega⟩
        · refine S_ref hR ⟨-3, inI_s (by omega) (by omega), by omega, ?_, ?_⟩
          · exact sg_X7_pin_0 (by omega) (C_isRow hr (fun _ => C_isPinSlot hk (by omega) (fun _ => C_isStitch hst (fun _ => C_anyDone (by omega) (fun z => ⟨rfl, rfl⟩) (fun _ => by omega)) (fun z => absurd c5 z)) (fun z => absurd (by omega) z)) (fun z => absurd c1 z))
          · exact sg_X8_pin_0 (by omega) ⟨hr, M_isIn (inL_I hr) (by unfold inL; omega) (by unfold inL; omega) (fun _ => ⟨hk, inI_s (by omega) (by omega), M_isIn (inL_I hk) (by unfold inL; omega) (by unfold inL; omega) (fun _ => ⟨hst, M_isIn (inL_I hst) (by unfold inL; omega) (by unfold inL; omega) (fun _ => ⟨inI_s (by omega) (by omega), by omega, fun _ => ⟨rfl, rfl⟩⟩) (fun z => absurd c5 z)⟩) (fun z => absurd c2 z)⟩) (fun z => absurd c1 z)⟩
      · refine S_ref hR ⟨-2, inI_s (by omega) (by omega), by omega, ?_, ?_⟩
        · exact sg_X7_pin_0 (by omega) (C_isRow hr (fun _ => C_isPinSlot hk (by omega) (fun _ => C_isStitch hst (fun z => absurd z c5) (fun z => ⟨rfl, rfl⟩)) (fun z => absurd (by omega) z)) (fun z => absurd c1 z))
        · exact sg_X8_pin_0 (by omega) ⟨hr, M_isIn (inL_I hr) (by unfold inL; omega) (by unfold inL; omega) (fun _ => ⟨hk, inI_s (by omega) (by omega), M_isIn (inL_I hk) (by unfold inL; omega) (by unfold inL; omega) (fun _ => ⟨hst, M_isIn (inL_I hst) (by unfold inL; omega) (by unfold inL; omega) (fun z => absurd z c5) (fun z => ⟨rfl, rfl⟩)⟩) (fun z => absurd c2 z)⟩) (fun z => absurd c1 z)⟩
    · refine S_ref hR ⟨-2, inI_s (by omega) (by omega), by omega, ?_, ?_⟩
      · exact sg_X7_pin_0 (by omega) (C_isRow hr (fun _ => C_isPinSlot hk (by omega) (fun z => absurd (by omega) c2) (fun z => ⟨rfl, rfl⟩)) (fun z => absurd c1 z))
      · exact sg_X8_pin_0 (by omega) ⟨hr, M_isIn (inL_I hr) (by unfold inL; omega) (by unfold inL; omega) (fun _ => ⟨hk, inI_s (by omega) (by omega), M_isIn (inL_I hk) (by unfold inL; omega) (by unfold inL; omega) (fun z => absurd z c2) (fun z => ⟨rfl, rfl⟩)⟩) (fun z => absurd c1 z)⟩
  · refine S_ref hR ⟨-2, inI_s (by omega) (by omega), by omega, ?_, ?_⟩
    · exact sg_X7_pin_0 (by omega) (C_isRow hr (fun z => absurd z c1) (fun z => ⟨rfl, rfl⟩))
    · exact sg_X8_pin_0 (by omega) ⟨hr, M_isIn (inL_I hr) (by unfold inL; omega) (by unfold inL; omega) (fun z => absurd z c1) (fun z => ⟨rfl, rfl⟩)⟩
theorem S_turn {d : Nat} (hd : 12 ≤ d) (k r : Int) (hk : inI k) (hr : inI r) : ASd d mX7_turn mX8_turn [.inl k, .inl r] := by
  intro h m hR
  obtain ⟨⟨i1, i2, i3, i4, i5, i6, i7, i8, i9⟩, r1, r2, r3, r4, r5, r6⟩ := id hR
  obtain ⟨w1, w2, w3, w4, w5, w6, w7, w8⟩ := id i1.1
  have v2 := i1.2.2.1
  obtain ⟨q1, q2, q3, q4, -, q6, q7, q8⟩ := id r1
  have e4 := r2.2.2.1
  by_cases c1 : 0 ≤ k ∧ k < m 1 0
  · by_cases c2 : 0 ≤ r ∧ r ≤ 99
    · by_cases c3 : m 1 4 = 0
      · have hE := fun a => r1.tst i1.1 a
        have hr5 : ∀ t, 0 ≤ t → t < m 1 2 → 0 ≤ h 5 t ∧ h 5 t < 1600 := fun t a b => ⟨(q6 t a b).1, (q6 t a b).2.1⟩
        have ij : inj1 (h 5) (m 1 2) := fun t u a b c d e => by
          rcases (show t < u ∨ t = u ∨ u < t by omega) with z | z | z
          · have := q7 t u a z d; omega
          · exact z
          · have := q7 u t c z b; omega
        have ijc : inj1 (fun t => cvT (h 5 t)) (m 1 2) := fun t u a b c d e => ij t u a b c d (cvT_inj (hr5 t a b) (hr5 u c d) e)
        have ecv : cvT (r * 16 + k) = 100 * k + r := cvT_code (by omega)
        have eq5 : tst (h 5) (m 1 2) (r * 16 + k) ↔ tst (fun t => m 1 (137 + t)) (m 1 2) (100 * k + r) := by
          rw [← hE, tst_map (f := h 5) (g := cvT)]
          constructor
          · intro z; exact ⟨_, z, ecv⟩
          · intro ⟨b, ⟨t, a0, a1, e⟩, z⟩
            have := hr5 t a0 a1
            rw [← ecv] at z
            have := cvT_inj (by rw [← e]; exact this) (by omega) z
            rw [← this]; exact ⟨t, a0, a1, e⟩
        have hrm : ∀ t, 0 ≤ t → t < m 1 2 → inI (m 1 (137 + t)) := fun t a b => inI_s (by have := w7 t a b; omega) (by have := w7 t a b; omega)
        by_cases c4 : tst (fun t => m 1 (137 + t)) (m 1 2) (100 * k + r)
        · -- it is taken away
          have n0 : 0 < m 1 2 := by obtain ⟨t, a, b, -⟩ := c4; omega
          refine ⟨m 1 2 - 1, fun h' => kp [1, 5] h h' ∧ (∀ i, i ≠ 6 → h' 1 i = h 1 i) ∧ h' 1 6 = m 1 2 - 1 ∧ ∃ p, (0 ≤ p ∧ p < m 1 2) ∧ h 5 p = r * 16 + k ∧ (∀ t, h' 5 t = if p ≤ t ∧ t < m 1 2 - 1 then h 5 (t + 1) else h 5 t), fun m' => kp [1] m m' ∧ m' 1 2 = m 1 2 - 1 ∧ (∀ j, j ≠ 2 → (j < 137 ∨ 147 ≤ j) → m' 1 j = m 1 j) ∧ ∃ p, (0 ≤ p ∧ p < m 1 2) ∧ m 1 (137 + p) = 100 * k + r ∧ (∀ t, 0 ≤ t → t < m 1 2 - 1 → m' 1 (137 + t) = if p ≤ t then m 1 (137 + (t + 1)) else m 1 (137 + t)), inI_s (by omega) (by omega), ?_, ?_, ?_, fun h' e => kp_mono e.1 (by decide), fun m' e => e.1, fun z => by omega⟩
          · refine sg_X7_turn_0 (by omega) (C_isSlot hk (by omega) (fun _ => C_isRow hr (fun _ => C_anyDone (by omega) (fun z => by omega) (fun _ => sg_X3_turnAt_0 (by omega) (C_turnNumber (by omega) c2 (C_placeOfTurn q3 w3 hr5 (inI_s (by omega) (by omega)) (fun p ip a b => ⟨ip, fun z => absurd (eq5.mpr c4) (a z), fun z => C_removeTurn q3 w3 ⟨z, (b z).1⟩ (fun h' k1 k2 k3 k4 => ⟨k3, k1, k2, k3, p, ⟨z, (b z).1⟩, (b z).2, k4⟩)⟩))))) (fun z => absurd c2 z)) (fun z => absurd (by omega) z))
          · refine sg_X8_turn_0 (by omega) (M_isSlot (by omega) hk (by omega) (fun _ => ⟨hr, M_isIn (inL_I hr) (by unfold inL; omega) (by unfold inL; omega) (fun _ => ⟨inI_s (by omega) (by omega), fun _ => M_turnL rfl w3 (inI_s (by omega) (by omega)) hrm (fun p a b e m' k1 k2 k3 k4 => ⟨rfl, k1, k2, k3, p, ⟨a, b⟩, e, k4⟩) (fun z => absurd c4 z) (fun z => absurd c4 z), by omega⟩) (fun z => absurd (by omega) z)⟩) (fun z => absurd c1 z))
          · intro h' m' ⟨k1, k2, k3, p, hp, ep, k4⟩ ⟨l1, l2, l3, p', hp', ep', l4⟩
            have A := tst_rem (f := fun t => cvT (h 5 t)) (g := fun t => cvT (h' 5 t)) hp ijc (fun t a b => by
              show cvT (h' 5 t) = _
              rw [k4]
              by_cases z : p ≤ t
              · rw [if_pos ⟨z, b⟩, if_pos z]
              · rw [if_neg (by omega), if_neg z])
            have B := tst_rem (f := fun t => m 1 (137 + t)) (g := fun t => m' 1 (137 + t)) hp' w8 (fun t a b => l4 t a b)
            refine turn_rel hR k1 l1 k2 k3 l3 l2 (by omega) (fun t a b => ?_) (fun t u a b c => ?_) (fun a => ?_) B.2
            · rw [k4]
              split
              · exact q6 _ (by omega) (by omega)
              · exact q6 _ (by omega) (by omega)
            · rw [k4, k4]
              by_cases z : p ≤ t
              · rw [if_pos (by omega), if_pos (by omega)]; exact q7 _ _ (by omega) (by omega) (by omega)
              · rw [if_neg (by omega)]
                split
                · exact q7 _ _ (by omega) (by omega) (by omega)
                · exact q7 _ _ (by omega) (by omega) (by omega)
            · rw [A.1 a, B.1 a, hE a]
              show _ ∧ a ≠ cvT (h 5 p) ↔ _ ∧ a ≠ m 1 (137 + p')
              rw [ep, ep', ecv]
        · by_cases c5 : m 1 2 = 10
          · refine S_ref hR ⟨-4, inI_s (by omega) (by omega), by omega, ?_, ?_⟩
            · refine sg_X7_turn_0 (by omega) (C_isSlot hk (by omega) (fun _ => C_isRow hr (fun _ => C_anyDone (by omega) (fun z => by omega) (fun _ => sg_X3_turnAt_0 (by omega) (C_turnNumber (by omega) c2 (C_placeOfTurn q3 w3 hr5 (inI_s (by omega) (by omega)) (fun p ip a b => ⟨ip, fun z => ⟨inI_s (by omega) (by omega), by omega, fun _ => ⟨rfl, rfl⟩⟩, fun z => absurd (eq5.mp ⟨p, z, (b z).1, (b z).2⟩) c4⟩))))) (fun z => absurd c2 z)) (fun z => absurd (by omega) z))
            · refine sg_X8_turn_0 (by omega) (M_isSlot (by omega) hk (by omega) (fun _ => ⟨hr, M_isIn (inL_I hr) (by unfold inL; omega) (by unfold inL; omega) (fun _ => ⟨inI_s (by omega) (by omega), fun _ => M_turnL rfl w3 (inI_s (by omega) (by omega)) hrm (fun p a b e => absurd ⟨p, a, b, e⟩ c4) (fun _ _ => ⟨rfl, rfl⟩) (by omega), by omega⟩) (fun z => absurd (by omega) z)⟩) (fun z => absurd c1 z))
          · refine ⟨m 1 2 + 1, fun h' => kp [1, 5] h h' ∧ (∀ i, i ≠ 6 → h' 1 i = h 1 i) ∧ h' 1 6 = m 1 2 + 1 ∧ (∀ t u, 0 ≤ t → t < u → u < m 1 2 + 1 → h' 5 t < h' 5 u) ∧ (∀ a, tst (h' 5) (m 1 2 + 1) a ↔ tst (h 5) (m 1 2) a ∨ a = r * 16 + k), fun m' => m' = xu (xu m 1 (137 + m 1 2) (100 * k + r)) 1 2 (m 1 2 + 1), inI_s (by omega) (by omega), ?_, ?_, ?_, fun h' e => kp_mono e.1 (by decide), fun m' e => by rw [e]; exact kp_tr (kp_xu (by decide)) (kp_xu (by decide)), fun z => by omega⟩
            · refine sg_X7_turn_0 (by omega) (C_isSlot hk (by omega) (fun _ => C_isRow hr (fun _ => C_anyDone (by omega) (fun z => by omega) (fun _ => sg_X3_turnAt_0 (by omega) (C_turnNumber (by omega) c2 (C_placeOfTurn q3 w3 hr5 (inI_s (by omega) (by omega)) (fun p ip a b => ⟨ip, fun z => ⟨inI_s (by omega) (by omega), fun _ => ⟨by omega, ?_⟩, by omega⟩, fun z => absurd (eq5.mp ⟨p, z, (b z).1, (b z).2⟩) c4⟩))))) (fun z => absurd c2 z)) (fun z => absurd (by omega) z))
              rw [q3]
              have e5 : xu (xu h 5 (m 1 2) (r * 16 + k)) 1 6 (m 1 2 + 1) 5 = up1 (h 5) (m 1 2) (r * 16 + k) := by rw [xu_oth (by decide), xu_row]
              have T := tst_add (f := h 5) (g := up1 (h 5) (m 1 2) (r * 16 + k)) (n := m 1 2) (by omega) up1_eq (fun t a b => up1_ne (by omega))
              refine C_sortTurns (n := m 1 2 + 1) xu_eq (by omega) (fun t a b => ?_) (by rw [e5]; exact T.2 ij (fun z => c4 (eq5.mp z))) (fun h5 g1 g2 g3 => ?_)
              · rw [e5]
                by_cases y : t = m 1 2
                · rw [y, up1_eq]; omega
                · rw [up1_ne y]; exact hr5 t a (by omega)
              · have e16 : h5 1 6 = m 1 2 + 1 := by rw [g1 1 (by decide), xu_eq]
                refine ⟨e16, kp_tr (kp_tr (kp_xu (by decide)) (kp_xu (by decide))) (kp_mono g1 (by decide)), fun i hi => by rw [g1 1 (by decide), xu_ne hi, xu_cn (by decide)], e16, g2, fun a => ?_⟩
                rw [g3 a, e5, T.1 a]
            · refine sg_X8_turn_0 (by omega) (M_isSlot (by omega) hk (by omega) (fun _ => ⟨hr, M_isIn (inL_I hr) (by unfold inL; omega) (by unfold inL; omega) (fun _ => ⟨inI_s (by omega) (by omega), fun _ => M_turnL rfl w3 (inI_s (by omega) (by omega)) hrm (fun p a b e => absurd ⟨p, a, b, e⟩ c4) (fun _ z => absurd z c5) (fun _ _ => ⟨rfl, rfl⟩), by omega⟩) (fun z => absurd (by omega) z)⟩) (fun z => absurd c1 z))
            · intro h' m' ⟨k1, k2, k3, k4, k5⟩ em
              subst em
              have T := tst_add (f := fun t => m 1 (137 + t)) (g := fun t => xu (xu m 1 (137 + m 1 2) (100 * k + r)) 1 2 (m 1 2 + 1) 1 (137 + t)) (n := m 1 2) (c := 100 * k + r) (by omega) (by show xu (xu m 1 (137 + m 1 2) (100 * k + r)) 1 2 (m 1 2 + 1) 1 (137 + m 1 2) = _; rw [xu_ne (by omega), xu_eq]) (fun t a b => by show xu (xu m 1 (137 + m 1 2) (100 * k + r)) 1 2 (m 1 2 + 1) 1 (137 + t) = _; rw [xu_ne (by omega), xu_ne (by omega)])
              refine turn_rel hR k1 (kp_tr (kp_xu (by decide)) (kp_xu (by decide))) k2 k3 (fun j a b => by rw [xu_ne a, xu_ne (by omega)]) xu_eq (by omega) (fun t a b => ?_) k4 (fun a => ?_) (T.2 w8 c4)
              · rcases (k5 (h' 5 t)).mp ⟨t, a, b, rfl⟩ with ⟨u, u0, u1, e⟩ | z
                · rw [← e]; exact q6 u u0 u1
                · rw [z]; omega
              · rw [tst_map (f := h' 5) (g := cvT), T.1 a, ← hE a, tst_map (f := h 5) (g := cvT)]
                constructor
                · intro ⟨b, hb, e⟩
                  rcases (k5 b).mp hb with z | z
                  · exact Or.inl ⟨b, z, e⟩
                  · rw [z, ecv] at e; exact Or.inr e.symm
                · intro z
                  rcases z with ⟨b, hb, e⟩ | z
                  · exact ⟨b, (k5 b).mpr (Or.inl hb), e⟩
                  · exact ⟨_, (k5 _).mpr (Or.inr rfl), by rw [ecv, z]⟩
      · refine S_ref hR ⟨-3, inI_s (by omega) (by omega), by omega, ?_, ?_⟩
        · exact sg_X7_turn_0 (by omega) (C_isSlot hk (by omega) (fun _ => C_isRow hr (fun _ => C_anyDone (by omega) (fun z => ⟨rfl, rfl⟩) (fun _ => by omega)) (fun z => absurd c2 z)) (fun z => absurd (by omega) z))
        · exact sg_X8_turn_0 (by omega) (M_isSlot (by omega) hk (by omega) (fun _ => ⟨hr, M_isIn (inL_I hr) (by unfold inL; omega) (by unfold inL; omega) (fun _ => ⟨inI_s (by omega) (by omega), by omega, fun _ => ⟨rfl, rfl⟩⟩) (fun z => absurd (by omega) z)⟩) (fun z => absurd c1 z))
    · refine S_ref hR ⟨-2, inI_s (by omega) (by omega), by omega, ?_, ?_⟩
      · exact sg_X7_turn_0 (by omega) (C_isSlot hk (by omega) (fun _ => C_isRow hr (fun z => absurd z c2) (fun _ => ⟨rfl, rfl⟩)) (fun z => absurd (by omega) z))
      · exact sg_X8_turn_0 (by omega) (M_isSlot (by omega) hk (by omega) (fun _ => ⟨hr, M_isIn (inL_I hr) (by unfold inL; omega) (by unfold inL; omega) (fun z => absurd (by omega) c2) (fun _ => ⟨rfl, rfl⟩)⟩) (fun z => absurd c1 z))
  · refine S_ref hR ⟨-1, inI_s (by omega) (by omega), by omega, ?_, ?_⟩
    · exact sg_X7_turn_0 (by omega) (C_isSlot hk (by omega) (fun z => absurd (by omega) c1) (fun z => ⟨rfl, rfl⟩))
    · exact sg_X8_turn_0 (by omega) (M_isSlot (by omega) hk (by omega) (fun z => absurd z c1) (fun z => ⟨rfl, rfl⟩))
