/-! rows that stay well-formed: what is filled at first, a pin more, turns -/
theorem WF_fill {s : Int → Int} {k v : Int} (hW : WF s) (hk : 0 ≤ k ∧ k < 12) (hv : v = 0 ∨ v = 1) : WF (up1 s (125 + k) v) := by
  obtain ⟨w1, w2, w3, w4, w5, w6, w7, w8⟩ := id hW.1
  have es : ∀ i, i ≠ 125 + k → up1 s (125 + k) v i = s i := fun i hi => up1_ne hi
  refine ⟨WFp_of hW.1 (es 0 (by omega)) (es 1 (by omega)) (es 2 (by omega)) (fun q a b => ⟨es _ (by omega), es _ (by omega), by rw [es _ (by omega)]; exact (w4 q a b).2.2⟩) (fun j a b => ?_) (fun t a b => es _ (by omega)), WFb_of hW (fun i a b => es i (by omega)) (by rw [es 3 (by omega)]; exact hW.2.1)⟩
  by_cases z : j = k
  · rw [z, up1_eq]; exact hv
  · rw [es _ (by omega)]; exact w6 j a b
theorem WF_turn {s s' : Int → Int} (hW : WF s) (em : ∀ j, j ≠ 2 → (j < 137 ∨ 147 ≤ j) → s' j = s j) (hn : 0 ≤ s' 2 ∧ s' 2 ≤ 10) (h7 : ∀ t, 0 ≤ t → t < s' 2 → 0 ≤ s' (137 + t) ∧ s' (137 + t) < 100 * s 0) (h8 : inj1 (fun t => s' (137 + t)) (s' 2)) : WF s' := by
  obtain ⟨w1, w2, w3, w4, w5, w6, w7, w8⟩ := id hW.1
  have o0 := em 0 (by omega) (by omega)
  have o1 := em 1 (by omega) (by omega)
  refine ⟨?_, WFb_of hW (fun i a b => em i (by omega) (by omega)) (by rw [em 3 (by omega) (by omega)]; exact hW.2.1)⟩
  unfold WFp
  rw [o0, o1]
  refine ⟨w1, w2, hn, fun p a b => ?_, fun p q a b c d ne e => ?_, fun k a b => ?_, h7, h8⟩
  · rw [em _ (by omega) (by omega), em _ (by omega) (by omega), em _ (by omega) (by omega)]; exact w4 p a b
  · rw [em _ (by omega) (by omega), em _ (by omega) (by omega)] at e
    rw [em _ (by omega) (by omega), em _ (by omega) (by omega)]; exact w5 p q a b c d ne e
  · rw [em _ (by omega) (by omega)]; exact w6 k a b
theorem WF_pin {s s' : Int → Int} {r k st : Int} (hW : WF s) (c3 : s 4 = 0) (cn : s 1 < 30) (hr : 0 ≤ r ∧ r ≤ 99) (hk : 0 ≤ k ∧ k ≤ s 0 - 2) (hst : 0 ≤ st ∧ st ≤ 4) (hc : ∀ p, 0 ≤ p → p < s 1 → ¬ clash s r k p)
    (es : ∀ i, i ≠ 1 → i ≠ 5 + s 1 → i ≠ 35 + s 1 → i ≠ 65 + s 1 → s' i = s i) (e1 : s' 1 = s 1 + 1) (e5 : s' (5 + s 1) = r) (e35 : s' (35 + s 1) = k) (e65 : s' (65 + s 1) = st) : WF s' := by
  obtain ⟨w1, w2, w3, w4, w5, w6, w7, w8⟩ := id hW.1
  obtain ⟨z1, z2, z3⟩ := WFb0 hW c3
  generalize hn : s 1 = n at *
  refine ⟨?_, ?_⟩
  · unfold WFp
    rw [es 0 (by omega) (by omega) (by omega) (by omega), es 2 (by omega) (by omega) (by omega) (by omega), e1]
    have row : ∀ p, 0 ≤ p → p < n → s' (5 + p) = s (5 + p) ∧ s' (35 + p) = s (35 + p) ∧ s' (65 + p) = s (65 + p) := fun p a b => ⟨es _ (by omega) (by omega) (by omega) (by omega), es _ (by omega) (by omega) (by omega) (by omega), es _ (by omega) (by omega) (by omega) (by omega)⟩
    refine ⟨w1, by omega, w3, fun p a b => ?_, fun p q a b c d ne e => ?_, fun j a b => ?_, fun t a b => ?_, fun t u a b c d e => ?_⟩
    · rcases (show p = n ∨ p < n by omega) with z | z
      · rw [z, e5, e35, e65]; exact ⟨hr, hk, hst⟩
      · rw [(row p a z).1, (row p a z).2.1, (row p a z).2.2]; exact w4 p a z
    · rcases (show p = n ∨ p < n by omega) with z | z
      · rcases (show q = n ∨ q < n by omega) with y | y
        · omega
        · rw [z, e5, (row q c y).1] at e
          rw [z, e35, (row q c y).2.1]
          have := hc q c y
          unfold clash at this
          omega
      · rcases (show q = n ∨ q < n by omega) with y | y
        · rw [y, e5, (row p a z).1] at e
          rw [y, e35, (row p a z).2.1]
          have := hc p a z
          unfold clash at this
          omega
        · rw [(row p a z).1, (row q c y).1] at e
          rw [(row p a z).2.1, (row q c y).2.1]
          exact w5 p q a z c y ne e
    · rw [es _ (by omega) (by omega) (by omega) (by omega)]; exact w6 j a b
    · rw [es _ (by omega) (by omega) (by omega) (by omega)]; exact w7 t a b
    · rw [es _ (by omega) (by omega) (by omega) (by omega), es _ (by omega) (by omega) (by omega) (by omega)] at e; exact w8 t u a b c d e
  · refine WFb_mk0 (by rw [e1]; omega) (by rw [es 4 (by omega) (by omega) (by omega) (by omega)]; exact c3) (by rw [es 3 (by omega) (by omega) (by omega) (by omega), es 0 (by omega) (by omega) (by omega) (by omega)]; exact z1) (fun q a b => by rw [es _ (by omega) (by omega) (by omega) (by omega)]; exact z2 q a b) ?_
    rw [es 0 (by omega) (by omega) (by omega) (by omega)]
    exact thOK_congr z3 (fun t a b => ⟨es _ (by omega) (by omega) (by omega) (by omega), es _ (by omega) (by omega) (by omega) (by omega)⟩)
