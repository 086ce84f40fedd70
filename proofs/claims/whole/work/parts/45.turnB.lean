/-! API turn -/
theorem tst_map {f : Int → Int} {g : Int → Int} {n a : Int} : tst (fun t => g (f t)) n a ↔ ∃ b, tst f n b ∧ g b = a :=
  ⟨fun ⟨t, a0, a1, e⟩ => ⟨f t, ⟨t, a0, a1, rfl⟩, e⟩, fun ⟨b, ⟨t, a0, a1, e⟩, z⟩ => ⟨t, a0, a1, by show g (f t) = a; rw [e]; exact z⟩⟩
theorem turn_rel {h m h' m' : xH} {n : Int} (hR : Rel h m) (kC : kp [1, 5] h h') (kM : kp [1] m m') (e1 : ∀ i, i ≠ 6 → h' 1 i = h 1 i) (e6 : h' 1 6 = n) (em : ∀ j, j ≠ 2 → (j < 137 ∨ 147 ≤ j) → m' 1 j = m 1 j) (e2 : m' 1 2 = n) (hn : 0 ≤ n ∧ n ≤ 10)
    (hT : ∀ t, 0 ≤ t → t < n → 0 ≤ h' 5 t ∧ h' 5 t < 1600 ∧ h' 5 t % 16 < m 1 0) (hS : ∀ t u, 0 ≤ t → t < u → u < n → h' 5 t < h' 5 u) (hE : ∀ a, tst (fun t => cvT (h' 5 t)) n a ↔ tst (fun t => m' 1 (137 + t)) n a) (hI : inj1 (fun t => m' 1 (137 + t)) n) : Rel h' m' := by
  obtain ⟨⟨i1, -⟩, r1, r2, -⟩ := id hR
  obtain ⟨w1, w2, w3, w4, w5, w6, w7, w8⟩ := id i1.1
  obtain ⟨q1, q2, q3, q4, ⟨f, q5, qf, qb⟩, q6, q7, q8⟩ := id r1
  have m0 : m' 0 = m 0 := kM 0 (by decide)
  have o0 := em 0 (by omega) (by omega)
  have o1 := em 1 (by omega) (by omega)
  have hWp : WFp (m' 1) := by
    unfold WFp
    rw [o0, o1, e2]
    refine ⟨w1, w2, hn, fun p a b => ?_, fun p q a b c d ne e => ?_, fun k a b => ?_, fun t a b => ?_, hI⟩
    · rw [em _ (by omega) (by omega), em _ (by omega) (by omega), em _ (by omega) (by omega)]; exact w4 p a b
    · rw [em _ (by omega) (by omega), em _ (by omega) (by omega)] at e
      rw [em _ (by omega) (by omega), em _ (by omega) (by omega)]; exact w5 p q a b c d ne e
    · rw [em _ (by omega) (by omega)]; exact w6 k a b
    · obtain ⟨u, u0, u1, e⟩ := (hE (m' 1 (137 + t))).mpr ⟨t, a, b, rfl⟩
      have x := hT u u0 u1
      rw [← e]
      show 0 ≤ cvT (h' 5 u) ∧ cvT (h' 5 u) < 100 * m 1 0
      unfold cvT
      omega
  refine hR.patU (kp_mono kC (by decide)) (kp_mono kM (by decide)) (by rw [m0]) (by rw [m0]) (by rw [m0]) ⟨hWp, WFb_of i1 (fun i a b => em i (by omega) (by omega)) ?_⟩ ?_ ?_
  · rw [em 3 (by omega) (by omega)]; exact i1.2.1
  · refine RPat_turns hWp (by rw [e1 0 (by omega), o0]; exact q1) (by rw [e1 2 (by omega), o1]; exact q2) (by rw [e6, e2]) (fun p a b => ?_) ⟨f, ?_, by rw [o0]; exact qf, fun k hk => ?_⟩ ?_ ?_ ?_
    · rw [o1] at b
      rw [kC 2 (by decide), kC 3 (by decide), kC 4 (by decide), em _ (by omega) (by omega), em _ (by omega) (by omega), em _ (by omega) (by omega)]
      exact q4 p a b
    · rw [e1 1 (by omega)]; exact q5
    · rw [o0] at hk
      rw [em _ (by omega) (by omega)]; exact qb k hk
    · rw [e2, o0]; exact hT
    · rw [e2]; exact hS
    · rw [e2]; exact hE
  · obtain ⟨b1, ⟨D, b2, b3, b4⟩, b5, b6, b7⟩ := id r2
    have v2 := i1.2.2.1
    unfold RBen
    rw [o0, em 4 (by omega) (by omega), em 3 (by omega) (by omega), kC 6 (by decide), kC 7 (by decide), kC 8 (by decide), kC 9 (by decide), kC 10 (by decide)]
    refine ⟨fun t a b => ?_, ⟨D, b2, b3, fun p hp => ?_⟩, b5, b6, fun i a b => ?_⟩
    · rw [em _ (by omega) (by omega), em _ (by omega) (by omega)]; exact b1 t a b
    · rw [em _ (by omega) (by omega)]; exact b4 p hp
    · rw [em _ (by omega) (by omega), em _ (by omega) (by omega)]; exact b7 i a b
theorem M_turnRem {d : Nat} {n p : Int} {m : xH} {Q : Int → xH → Prop} (hn : m 1 2 = n - 1) (h0 : 0 < n ∧ n ≤ 10) (hp : 0 ≤ p ∧ p < n)
    (hq : ∀ m', kp [1] m m' → m' 1 2 = n - 1 → (∀ j, (j < 137 ∨ 147 ≤ j) → m' 1 j = m 1 j) → (∀ t, 0 ≤ t → t < n - 1 → m' 1 (137 + t) = if p ≤ t then m 1 (137 + (t + 1)) else m 1 (137 + t)) → Q (n - 1) m') : gI wdM d mX8_turn 90 [some (.inr (.inr 0)), none, none, none, none, some (.inl p)] m Q := by
  have lp : ∀ i : Int, i ≤ n - 1 → p ≤ i → ∀ m1 : xH, kp [1] m m1 → (∀ j, m1 1 j = if 137 + p ≤ j ∧ j < 137 + i then m 1 (j + 1) else m 1 j) → gI wdM d mX8_turn 90 [some (.inr (.inr 0)), none, none, none, none, some (.inl i)] m1 Q := by
    refine dn ?_ ?_
    · intro _ m1 k hj
      have e2 : m1 1 2 = n - 1 := by rw [hj, if_neg (by omega)]; exact hn
      refine sg_X8_turn_90 ?_
      rw [e2]
      refine ⟨⟨inI_s (by omega) (by omega), inI_s (by omega) (by omega)⟩, fun _ => hq m1 k e2 (fun j a => by rw [hj, if_neg (by omega)]) (fun t a b => ?_), fun z => absurd z (by omega)⟩
      rw [hj]
      by_cases z : p ≤ t
      · rw [if_pos (by omega), if_pos z, show 137 + t + 1 = 137 + (t + 1) by omega]
      · rw [if_neg (by omega), if_neg z]
    · intro i hi ih hpi m1 k hj
      have e2 : m1 1 2 = n - 1 := by rw [hj, if_neg (by omega)]; exact hn
      refine sg_X8_turn_90 ?_
      rw [e2]
      refine ⟨⟨inI_s (by omega) (by omega), inI_s (by omega) (by omega)⟩, fun z => absurd z (by omega), fun _ => ⟨by omega, by omega, ih (by omega) _ (kp_tr k (kp_xu (by decide))) (fun j => ?_)⟩⟩
      by_cases z : j = 137 + i
      · rw [z, xu_eq, if_pos (by omega), hj, if_neg (by omega)]
      · rw [xu_ne z, hj]
        by_cases y : 137 + p ≤ j ∧ j < 137 + i
        · rw [if_pos y, if_pos (by omega)]
        · rw [if_neg y, if_neg (by omega)]
  exact lp p (by omega) (by omega) m (kp_rf _ _) (fun j => by rw [if_neg (by omega)])
theorem M_turnL {d : Nat} {n c : Int} {m : xH} {Q : Int → xH → Prop} (hn : m 1 2 = n) (h0 : 0 ≤ n ∧ n ≤ 10) (hc : inI c) (hr : ∀ t, 0 ≤ t → t < n → inI (m 1 (137 + t)))
    (hin : ∀ p, 0 ≤ p → p < n → m 1 (137 + p) = c → ∀ m', kp [1] m m' → m' 1 2 = n - 1 → (∀ j, j ≠ 2 → (j < 137 ∨ 147 ≤ j) → m' 1 j = m 1 j) → (∀ t, 0 ≤ t → t < n - 1 → m' 1 (137 + t) = if p ≤ t then m 1 (137 + (t + 1)) else m 1 (137 + t)) → Q (n - 1) m')
    (hfull : ¬ tst (fun t => m 1 (137 + t)) n c → n = 10 → Q (-4) m)
    (hadd : ¬ tst (fun t => m 1 (137 + t)) n c → n < 10 → Q (n + 1) (xu (xu m 1 (137 + n) c) 1 2 (n + 1))) : gI wdM d mX8_turn 47 [some (.inr (.inr 0)), none, none, some (.inl c), some (.inl 0), none] m Q := by
  have lp : ∀ t : Int, t ≤ n → 0 ≤ t → (∀ u, 0 ≤ u → u < t → ¬ m 1 (137 + u) = c) → gI wdM d mX8_turn 47 [some (.inr (.inr 0)), none, none, some (.inl c), some (.inl t), none] m Q := by
    refine dn ?_ ?_
    · intro _ hk
      have no : ¬ tst (fun t => m 1 (137 + t)) n c := fun ⟨t, a, b, e⟩ => hk t a b e
      refine sg_X8_turn_47 ?_
      rw [xu_ne (show (2 : Int) ≠ 137 + m 1 2 by omega), hn]
      exact ⟨⟨inI_s (by omega) (by omega), inI_s (by omega) (by omega)⟩, fun _ => ⟨inI_s (by omega) (by omega), fun z => ⟨by omega, hadd no (by omega)⟩, fun z => hfull no z⟩, fun z => absurd z (by omega)⟩
    · intro t ht ih t0 hk
      refine sg_X8_turn_47 ?_
      rw [hn]
      refine ⟨⟨inI_s (by omega) (by omega), inI_s (by omega) (by omega)⟩, fun z => absurd z (by omega), fun _ => ⟨by omega, ⟨hr t t0 ht, hc⟩, fun z => M_turnRem (n := n) xu_eq (by omega) ⟨t0, ht⟩ (fun m' k e2 ej et => hin t t0 ht z m' (kp_tr (kp_xu (by decide)) k) e2 (fun j a b => by rw [ej j b, xu_ne a]) (fun u a b => ?_)), fun z => ih (by omega) (fun u a b => ?_)⟩⟩
      · rw [et u a b, xu_ne (by omega), xu_ne (by omega)]
      · by_cases y : u = t
        · rw [y]; exact z
        · exact hk u a (by omega)
  exact lp 0 (by omega) (by omega) (fun u a b => by omega)
theorem A_turn {d : Nat} (hd : 12 ≤ d) (k r : Int) (hk : inI k) (hr : inI r) : AId d mX7_turn mX8_turn [.inl k, .inl r] := by
  intro h m hR
  obtain ⟨⟨i1, i2, i3, i4, i5, i6, i7, i8, i9⟩, r1, r2, r3, r4, r5, r6, r7⟩ := id hR
  obtain ⟨w1, w2, w3, w4, w5, w6, w7, w8⟩ := id i1.1
  have v2 := i1.2.2.1
  obtain ⟨q1, q2, q3, q4, -, q6, q7, q8⟩ := id r1
  have e4 := r2.2.2.1
  by_cases c1 : 0 ≤ k ∧ k < m 1 0
  · by_cases c2 : 0 ≤ r ∧ r ≤ 99
    · by_cases c3 : m 1 4 = 0
      · have hE := fun a => r1.tst i1.1 a
        have hr5 : ∀ t, 0 ≤ t → t < m 1 2 → 0 ≤ h 5 t ∧ h 5 t < 1600 := fun t a b => ⟨(q6 t a b).1, (q6 t a b).2.1⟩
        have ij : inj1 (h 5) (m 1 2) := fun t u a b c d e => by
          rcases (show t < u ∨ t = u ∨ u < t by omega) with z | z | z
          · have := q7 t u a z d; omega
          · exact z
          · have := q7 u t c z b; omega
        have ijc : inj1 (fun t => cvT (h 5 t)) (m 1 2) := fun t u a b c d e => ij t u a b c d (cvT_inj (hr5 t a b) (hr5 u c d) e)
        have ecv : cvT (r * 16 + k) = 100 * k + r := cvT_code (by omega)
        have eq5 : tst (h 5) (m 1 2) (r * 16 + k) ↔ tst (fun t => m 1 (137 + t)) (m 1 2) (100 * k + r) := by
          rw [← hE, tst_map (f := h 5) (g := cvT)]
          constructor
          · intro z; exact ⟨_, z, ecv⟩
          · intro ⟨b, ⟨t, a0, a1, e⟩, z⟩
            have := hr5 t a0 a1
            rw [← ecv] at z
            have := cvT_inj (by rw [← e]; exact this) (by omega) z
            rw [← this]; exact ⟨t, a0, a1, e⟩
        have hrm : ∀ t, 0 ≤ t → t < m 1 2 → inI (m 1 (137 + t)) := fun t a b => inI_s (by have := w7 t a b; omega) (by have := w7 t a b; omega)
        by_cases c4 : tst (fun t => m 1 (137 + t)) (m 1 2) (100 * k + r)
        · -- it is taken away
          have n0 : 0 < m 1 2 := by obtain ⟨t, a, b, -⟩ := c4; omega
          refine ⟨m 1 2 - 1, fun h' => kp [1, 5] h h' ∧ (∀ i, i ≠ 6 → h' 1 i = h 1 i) ∧ h' 1 6 = m 1 2 - 1 ∧ ∃ p, (0 ≤ p ∧ p < m 1 2) ∧ h 5 p = r * 16 + k ∧ (∀ t, h' 5 t = if p ≤ t ∧ t < m 1 2 - 1 then h 5 (t + 1) else h 5 t), fun m' => kp [1] m m' ∧ m' 1 2 = m 1 2 - 1 ∧ (∀ j, j ≠ 2 → (j < 137 ∨ 147 ≤ j) → m' 1 j = m 1 j) ∧ ∃ p, (0 ≤ p ∧ p < m 1 2) ∧ m 1 (137 + p) = 100 * k + r ∧ (∀ t, 0 ≤ t → t < m 1 2 - 1 → m' 1 (137 + t) = if p ≤ t then m 1 (137 + (t + 1)) else m 1 (137 + t)), inI_s (by omega) (by omega), ?_, ?_, ?_⟩
          · refine sg_X7_turn_0 (by omega) (C_isSlot hk (by omega) (fun _ => C_isRow hr (fun _ => C_anyDone (by omega) (fun z => by omega) (fun _ => sg_X3_turnAt_0 (by omega) (C_turnNumber (by omega) c2 (C_placeOfTurn q3 w3 hr5 (inI_s (by omega) (by omega)) (fun p ip a b => ⟨ip, fun z => absurd (eq5.mpr c4) (a z), fun z => C_removeTurn q3 w3 ⟨z, (b z).1⟩ (fun h' k1 k2 k3 k4 => ⟨k3, k1, k2, k3, p, ⟨z, (b z).1⟩, (b z).2, k4⟩)⟩))))) (fun z => absurd c2 z)) (fun z => absurd (by omega) z))
          · refine sg_X8_turn_0 (by omega) (M_isSlot (by omega) hk (by omega) (fun _ => ⟨hr, M_isIn (inL_I hr) (by unfold inL; omega) (by unfold inL; omega) (fun _ => ⟨inI_s (by omega) (by omega), fun _ => M_turnL rfl w3 (inI_s (by omega) (by omega)) hrm (fun p a b e m' k1 k2 k3 k4 => ⟨rfl, k1, k2, k3, p, ⟨a, b⟩, e, k4⟩) (fun z => absurd c4 z) (fun z => absurd c4 z), by omega⟩) (fun z => absurd (by omega) z)⟩) (fun z => absurd c1 z))
          · intro h' m' ⟨k1, k2, k3, p, hp, ep, k4⟩ ⟨l1, l2, l3, p', hp', ep', l4⟩
            have A := tst_rem (f := fun t => cvT (h 5 t)) (g := fun t => cvT (h' 5 t)) hp ijc (fun t a b => by
              show cvT (h' 5 t) = _
              rw [k4]
              by_cases z : p ≤ t
              · rw [if_pos ⟨z, b⟩, if_pos z]
              · rw [if_neg (by omega), if_neg z])
            have B := tst_rem (f := fun t => m 1 (137 + t)) (g := fun t => m' 1 (137 + t)) hp' w8 (fun t a b => l4 t a b)
            refine turn_rel hR k1 l1 k2 k3 l3 l2 (by omega) (fun t a b => ?_) (fun t u a b c => ?_) (fun a => ?_) B.2
            · rw [k4]
              split
              · exact q6 _ (by omega) (by omega)
              · exact q6 _ (by omega) (by omega)
            · rw [k4, k4]
              by_cases z : p ≤ t
              · rw [if_pos (by omega), if_pos (by omega)]; exact q7 _ _ (by omega) (by omega) (by omega)
              · rw [if_neg (by omega)]
                split
                · exact q7 _ _ (by omega) (by omega) (by omega)
                · exact q7 _ _ (by omega) (by omega) (by omega)
            · rw [A.1 a, B.1 a, hE a]
              show _ ∧ a ≠ cvT (h 5 p) ↔ _ ∧ a ≠ m 1 (137 + p')
              rw [ep, ep', ecv]
        · by_cases c5 : m 1 2 = 10
          · refine A_ref hR ⟨-4, inI_s (by omega) (by omega), ?_, ?_⟩
            · refine sg_X7_turn_0 (by omega) (C_isSlot hk (by omega) (fun _ => C_isRow hr (fun _ => C_anyDone (by omega) (fun z => by omega) (fun _ => sg_X3_turnAt_0 (by omega) (C_turnNumber (by omega) c2 (C_placeOfTurn q3 w3 hr5 (inI_s (by omega) (by omega)) (fun p ip a b => ⟨ip, fun z => ⟨inI_s (by omega) (by omega), by omega, fun _ => ⟨rfl, keepC_rf h⟩⟩, fun z => absurd (eq5.mp ⟨p, z, (b z).1, (b z).2⟩) c4⟩))))) (fun z => absurd c2 z)) (fun z => absurd (by omega) z))
            · refine sg_X8_turn_0 (by omega) (M_isSlot (by omega) hk (by omega) (fun _ => ⟨hr, M_isIn (inL_I hr) (by unfold inL; omega) (by unfold inL; omega) (fun _ => ⟨inI_s (by omega) (by omega), fun _ => M_turnL rfl w3 (inI_s (by omega) (by omega)) hrm (fun p a b e => absurd ⟨p, a, b, e⟩ c4) (fun _ _ => ⟨rfl, keepM_rf m⟩) (by omega), by omega⟩) (fun z => absurd (by omega) z)⟩) (fun z => absurd c1 z))
          · refine ⟨m 1 2 + 1, fun h' => kp [1, 5] h h' ∧ (∀ i, i ≠ 6 → h' 1 i = h 1 i) ∧ h' 1 6 = m 1 2 + 1 ∧ (∀ t u, 0 ≤ t → t < u → u < m 1 2 + 1 → h' 5 t < h' 5 u) ∧ (∀ a, tst (h' 5) (m 1 2 + 1) a ↔ tst (h 5) (m 1 2) a ∨ a = r * 16 + k), fun m' => m' = xu (xu m 1 (137 + m 1 2) (100 * k + r)) 1 2 (m 1 2 + 1), inI_s (by omega) (by omega), ?_, ?_, ?_⟩
            · refine sg_X7_turn_0 (by omega) (C_isSlot hk (by omega) (fun _ => C_isRow hr (fun _ => C_anyDone (by omega) (fun z => by omega) (fun _ => sg_X3_turnAt_0 (by omega) (C_turnNumber (by omega) c2 (C_placeOfTurn q3 w3 hr5 (inI_s (by omega) (by omega)) (fun p ip a b => ⟨ip, fun z => ⟨inI_s (by omega) (by omega), fun _ => ⟨by omega, ?_⟩, by omega⟩, fun z => absurd (eq5.mp ⟨p, z, (b z).1, (b z).2⟩) c4⟩))))) (fun z => absurd c2 z)) (fun z => absurd (by omega) z))
              rw [q3]
              have e5 : xu (xu h 5 (m 1 2) (r * 16 + k)) 1 6 (m 1 2 + 1) 5 = up1 (h 5) (m 1 2) (r * 16 + k) := by rw [xu_oth (by decide), xu_row]
              have T := tst_add (f := h 5) (g := up1 (h 5) (m 1 2) (r * 16 + k)) (n := m 1 2) (by omega) up1_eq (fun t a b => up1_ne (by omega))
              refine C_sortTurns (n := m 1 2 + 1) xu_eq (by omega) (fun t a b => ?_) (by rw [e5]; exact T.2 ij (fun z => c4 (eq5.mp z))) (fun h5 g1 g2 g3 => ?_)
              · rw [e5]
                by_cases y : t = m 1 2
                · rw [y, up1_eq]; omega
                · rw [up1_ne y]; exact hr5 t a (by omega)
              · have e16 : h5 1 6 = m 1 2 + 1 := by rw [g1 1 (by decide), xu_eq]
                refine ⟨e16, kp_tr (kp_tr (kp_xu (by decide)) (kp_xu (by decide))) (kp_mono g1 (by decide)), fun i hi => by rw [g1 1 (by decide), xu_ne hi, xu_cn (by decide)], e16, g2, fun a => ?_⟩
                rw [g3 a, e5, T.1 a]
            · refine sg_X8_turn_0 (by omega) (M_isSlot (by omega) hk (by omega) (fun _ => ⟨hr, M_isIn (inL_I hr) (by unfold inL; omega) (by unfold inL; omega) (fun _ => ⟨inI_s (by omega) (by omega), fun _ => M_turnL rfl w3 (inI_s (by omega) (by omega)) hrm (fun p a b e => absurd ⟨p, a, b, e⟩ c4) (fun _ z => absurd z c5) (fun _ _ => ⟨rfl, rfl⟩), by omega⟩) (fun z => absurd (by omega) z)⟩) (fun z => absurd c1 z))
            · intro h' m' ⟨k1, k2, k3, k4, k5⟩ em
              subst em
              have T := tst_add (f := fun t => m 1 (137 + t)) (g := fun t => xu (xu m 1 (137 + m 1 2) (100 * k + r)) 1 2 (m 1 2 + 1) 1 (137 + t)) (n := m 1 2) (c := 100 * k + r) (by omega) (by show xu (xu m 1 (137 + m 1 2) (100 * k + r)) 1 2 (m 1 2 + 1) 1 (137 + m 1 2) = _; rw [xu_ne (by omega), xu_eq]) (fun t a b => by show xu (xu m 1 (137 + m 1 2) (100 * k + r)) 1 2 (m 1 2 + 1) 1 (137 + t) = _; rw [xu_ne (by omega), xu_ne (by omega)])
              refine turn_rel hR k1 (kp_tr (kp_xu (by decide)) (kp_xu (by decide))) k2 k3 (fun j a b => by rw [xu_ne a, xu_ne (by omega)]) xu_eq (by omega) (fun t a b => ?_) k4 (fun a => ?_) (T.2 w8 c4)
              · rcases (k5 (h' 5 t)).mp ⟨t, a, b, rfl⟩ with ⟨u, u0, u1, e⟩ | z
                · rw [← e]; exact q6 u u0 u1
                · rw [z]; omega
              · rw [tst_map (f := h' 5) (g := cvT), T.1 a, ← hE a, tst_map (f := h 5) (g := cvT)]
                constructor
                · intro ⟨b, hb, e⟩
                  rcases (k5 b).mp hb with z | z
                  · exact Or.inl ⟨b, z, e⟩
                  · rw [z, ecv] at e; exact Or.inr e.symm
                · intro z
                  rcases z with ⟨b, hb, e⟩ | z
                  · exact ⟨b, (k5 b).mpr (Or.inl hb), e⟩
                  · exact ⟨_, (k5 _).mpr (Or.inr rfl), by rw [ecv, z]⟩
      · refine A_ref hR ⟨-3, inI_s (by omega) (by omega), ?_, ?_⟩
        · exact sg_X7_turn_0 (by omega) (C_isSlot hk (by omega) (fun _ => C_isRow hr (fun _ => C_anyDone (by omega) (fun z => ⟨rfl, keepC_rf h⟩) (fun _ => by omega)) (fun z => absurd c2 z)) (fun z => absurd (by omega) z))
        · exact sg_X8_turn_0 (by omega) (M_isSlot (by omega) hk (by omega) (fun _ => ⟨hr, M_isIn (inL_I hr) (by unfold inL; omega) (by unfold inL; omega) (fun _ => ⟨inI_s (by omega) (by omega), by omega, fun _ => ⟨rfl, keepM_rf m⟩⟩) (fun z => absurd (by omega) z)⟩) (fun z => absurd c1 z))
    · refine A_ref hR ⟨-2, inI_s (by omega) (by omega), ?_, ?_⟩
      · exact sg_X7_turn_0 (by omega) (C_isSlot hk (by omega) (fun _ => C_isRow hr (fun z => absurd z c2) (fun _ => ⟨rfl, keepC_rf h⟩)) (fun z => absurd (by omega) z))
      · exact sg_X8_turn_0 (by omega) (M_isSlot (by omega) hk (by omega) (fun _ => ⟨hr, M_isIn (inL_I hr) (by unfold inL; omega) (by unfold inL; omega) (fun z => absurd (by omega) c2) (fun _ => ⟨rfl, keepM_rf m⟩)⟩) (fun z => absurd c1 z))
  · refine A_ref hR ⟨-1, inI_s (by omega) (by omega), ?_, ?_⟩
    · exact sg_X7_turn_0 (by omega) (C_isSlot hk (by omega) (fun z => absurd (by omega) c1) (fun z => ⟨rfl, keepC_rf h⟩))
    · exact sg_X8_turn_0 (by omega) (M_isSlot (by omega) hk (by omega) (fun z => absurd z c1) (fun z => ⟨rfl, keepM_rf m⟩))
