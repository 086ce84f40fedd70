theorem flc_in {w c : Int} (hc : 0 ≤ c ∧ c < 100 * w) : 0 ≤ flc w c ∧ flc w c < 100 * w := by unfold flc; omega
theorem flc_inj {w c e : Int} (hc : 0 ≤ c ∧ c < 100 * w) (he : 0 ≤ e ∧ e < 100 * w) (h : flc w c = flc w e) : c = e := by unfold flc at h; omega
theorem A_mirror : AI mX7_mirror mX8_mirror [] := by
  intro h m hR
  obtain ⟨⟨i1, i2, i3, i4, i5, i6, i7, i8, i9⟩, r1, r2, r3, r4, r5, r6, r7⟩ := id hR
  obtain ⟨w1, w2, w3, w4, w5, w6, w7, w8⟩ := id i1.1
  have v2 := i1.2.2.1
  obtain ⟨q1, q2, q3, q4, ⟨f, q5, qf, qb⟩, q6, q7, q8⟩ := id r1
  have e4 := r2.2.2.1
  by_cases c : m 1 4 = 0
  · refine ⟨m 1 1, fun h' => ∃ F : Nat, kp [1, 3, 5] h h' ∧ (∀ i, i ≠ 1 → h' 1 i = h 1 i) ∧ (∀ p, 0 ≤ p → p < m 1 1 → h' 3 p = m 1 0 - 2 - m 1 (35 + p)) ∧ (∀ t u, 0 ≤ t → t < u → u < m 1 2 → h' 5 t < h' 5 u) ∧ (∀ a, tst (h' 5) (m 1 2) a ↔ tst (fun t => flT (m 1 0) (h 5 t)) (m 1 2) a) ∧ h' 1 1 = F ∧ F < 2 ^ (m 1 0).toNat ∧ (∀ j, j < (m 1 0).toNat → F.testBit j = f.testBit ((m 1 0).toNat - 1 - j)), fun m' => kp [1] m m' ∧ m' 1 = mir (m 1), inI_s (by omega) (by omega), ?_, ?_, ?_⟩
    · refine sg_X7_mirror_0 (by omega) (C_anyDone (by omega) (fun z => by omega) (fun _ => C_flip (by omega) i1.1 r1 q5 qf (fun h' F k1 k2 k3 k4 k5 k6 k7 k8 => ⟨by rw [k2 2 (by omega)]; exact q2, F, k1, k2, k3, k4, k5, k6, k7, k8⟩)))
    · exact sg_X8_mirror_0 ⟨inI_s (by omega) (by omega), fun _ => M_mirrorL i1.1 (fun m' k1 k2 => ⟨rfl, k1, k2⟩), by omega⟩
    · intro h' m' ⟨F, k1, k2, k3, k4, k5, k6, k7, k8⟩ ⟨l1, l2⟩
      have m0 : m' 0 = m 0 := l1 0 (by decide)
      generalize m 1 = s at *
      have lo : ∀ j, (j < 35 ∨ 65 ≤ j ∧ j < 125 ∨ 147 ≤ j) → mir s j = s j := fun j hj => by
        unfold mir; rw [if_neg (by omega), if_neg (by omega), if_neg (by omega)]
      have es : ∀ p, 0 ≤ p → p < s 1 → mir s (35 + p) = s 0 - 2 - s (35 + p) := fun p a b => by
        unfold mir; rw [if_pos (by omega)]
      have et : ∀ t, 0 ≤ t → t < s 2 → mir s (137 + t) = flc (s 0) (s (137 + t)) := fun t a b => by
        unfold mir; rw [if_neg (by omega), if_pos (by omega)]
      have ef : ∀ k, 0 ≤ k → k < s 0 → mir s (125 + k) = s (125 + (s 0 - 1 - k)) := fun k a b => by
        unfold mir; rw [if_neg (by omega), if_neg (by omega), if_pos (by omega), show 125 + k - 125 = k by omega]
      have ef2 : ∀ k, s 0 ≤ k → k < 12 → mir s (125 + k) = s (125 + k) := fun k a b => by
        unfold mir; rw [if_neg (by omega), if_neg (by omega), if_neg (by omega)]
      have o0 := lo 0 (by omega)
      have o1 := lo 1 (by omega)
      have o2 := lo 2 (by omega)
      have hWp : WFp (mir s) := by
        unfold WFp
        rw [o0, o1, o2]
        refine ⟨w1, w2, w3, fun p a b => ?_, fun p q a b c d ne e => ?_, fun k a b => ?_, fun t a b => ?_, fun t u a b c d e => ?_⟩
        · have x := w4 p a b
          rw [lo (5 + p) (by omega), es p a b, lo (65 + p) (by omega)]
          exact ⟨x.1, by omega, x.2.2⟩
        · rw [lo (5 + p) (by omega), lo (5 + q) (by omega)] at e
          have := w5 p q a b c d ne e
          rw [es p a b, es q c d]; omega
        · by_cases z : k < s 0
          · rw [ef k a z]; exact w6 _ (by omega) (by omega)
          · rw [ef2 k (by omega) b]; exact w6 k a b
        · rw [et t a b]; exact flc_in (w7 t a b)
        · rw [et t a b, et u c d] at e
          exact w8 t u a b c d (flc_inj (w7 t a b) (w7 u c d) e)
      obtain ⟨z1, z2, z3⟩ := WFb0 i1 c
      refine hR.patU (kp_mono k1 (by decide)) (kp_mono l1 (by decide)) (by rw [m0]) (by rw [m0]) (by rw [m0]) ?_ ?_ ?_
      · rw [l2]
        refine ⟨hWp, WFb_mk0 (by rw [o1]; exact w2) (by rw [lo 4 (by omega)]; exact c) (by rw [lo 3 (by omega), o0]; exact z1) (fun p a b => by rw [lo _ (by omega)]; exact z2 p a b) ?_⟩
        rw [o0]
        exact thOK_congr z3 (fun t a b => ⟨lo _ (by omega), lo _ (by omega)⟩)
      · rw [l2]
        refine RPat_turns hWp (by rw [k2 0 (by omega), o0]; exact q1) (by rw [k2 2 (by omega), o1]; exact q2) (by rw [k2 6 (by omega), o2]; exact q3) (fun p a b => ?_) ⟨F, k6, by rw [o0]; exact k7, fun k hk => ?_⟩ (fun t a b => ?_) ?_ (fun a => ?_)
        · rw [o1] at b
          have x := q4 p a b
          have y := w4 p a b
          rw [k1 2 (by decide), k1 4 (by decide), lo (5 + p) (by omega), es p a b, lo (65 + p) (by omega)]
          exact ⟨x.1, k3 p a b, x.2.2⟩
        · rw [o0] at hk
          have x := qb ((s 0).toNat - 1 - k) (by omega)
          have y := k8 k (by omega)
          rw [ef k (by omega) hk, show s 0 - 1 - (k : Int) = (((s 0).toNat - 1 - k : Nat) : Int) by omega, x]
          unfold bti
          rw [y]
        · rw [o2] at b
          rw [o0]
          obtain ⟨u, u0, u1, e⟩ := (k5 (h' 5 t)).mp ⟨t, a, b, rfl⟩
          rw [← e]
          exact flT_in (by omega) (q6 u u0 u1)
        · rw [o2]; exact k4
        · rw [o2, tst_post (f := h' 5) (f' := fun t => flT (s 0) (h 5 t)) (g := cvT) k5]
          have x1 : tst (fun t => cvT (flT (s 0) (h 5 t))) (s 2) a ↔ tst (fun t => flc (s 0) (cvT (h 5 t))) (s 2) a := tst_congr (fun t a b => flc_cvT (by omega) (q6 t a b))
          rw [x1, tst_post (f := fun t => cvT (h 5 t)) (f' := fun t => s (137 + t)) (g := flc (s 0)) (fun a => r1.tst i1.1 a)]
          exact tst_congr (fun t a b => (et t a b).symm)
      · rw [l2]
        obtain ⟨b1, ⟨D, b2, b3, b4⟩, b5, b6, b7⟩ := id r2
        unfold RBen
        rw [o0, lo 4 (by omega), lo 3 (by omega), k1 6 (by decide), k1 7 (by decide), k1 8 (by decide), k1 9 (by decide), k1 10 (by decide)]
        refine ⟨fun t a b => ?_, ⟨D, b2, b3, fun p hp => ?_⟩, b5, b6, fun i a b => by omega⟩
        · rw [lo _ (by omega), lo _ (by omega)]; exact b1 t a b
        · rw [lo _ (by omega)]; exact b4 p hp
  · refine A_ref hR ⟨-3, inI_s (by omega) (by omega), ?_, ?_⟩
    · exact sg_X7_mirror_0 (by omega) (C_anyDone (by omega) (fun z => ⟨rfl, keepC_rf h⟩) (fun _ => by omega))
    · exact sg_X8_mirror_0 ⟨inI_s (by omega) (by omega), by omega, fun _ => ⟨rfl, keepM_rf m⟩⟩
