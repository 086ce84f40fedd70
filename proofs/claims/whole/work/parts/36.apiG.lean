/-! API: the pricking (3): pin, loom, image, restore -/
def clash (s : Int → Int) (r k p : Int) : Prop := s (5 + p) = r ∧ -1 ≤ s (35 + p) - k ∧ s (35 + p) - k ≤ 1
theorem pin_rel {h m h' m' : xH} {r k st : Int} (hR : Rel h m) (c3 : m 1 4 = 0) (cn : m 1 1 < 30) (hr : 0 ≤ r ∧ r ≤ 99) (hk : 0 ≤ k ∧ k ≤ m 1 0 - 2) (hst : 0 ≤ st ∧ st ≤ 4) (hc : ∀ p, 0 ≤ p → p < m 1 1 → ¬ clash (m 1) r k p)
    (eh : h' = xu (xu (xu (xu h 2 (m 1 1) r) 3 (m 1 1) k) 4 (m 1 1) st) 1 2 (m 1 1 + 1)) (em : m' = xu (xu (xu (xu m 1 (5 + m 1 1) r) 1 (35 + m 1 1) k) 1 (65 + m 1 1) st) 1 1 (m 1 1 + 1)) : Rel h' m' := by
  obtain ⟨⟨i1, i2, i3, i4, i5, i6, i7, i8, i9⟩, r1, r2, r3, r4, r5, r6, r7⟩ := id hR
  obtain ⟨w1, w2, w3, w4, w5, w6, w7, w8⟩ := id i1.1
  obtain ⟨z1, z2, z3⟩ := WFb0 i1 c3
  generalize hn : m 1 1 = n at *
  subst eh; subst em
  have es : ∀ i, i ≠ 1 → i ≠ 5 + n → i ≠ 35 + n → i ≠ 65 + n → xu (xu (xu (xu m 1 (5 + n) r) 1 (35 + n) k) 1 (65 + n) st) 1 1 (n + 1) 1 i = m 1 i := fun i a b c d => by
    simp (disch := omega) only [xu_ne]
  have e1 : xu (xu (xu (xu m 1 (5 + n) r) 1 (35 + n) k) 1 (65 + n) st) 1 1 (n + 1) 1 1 = n + 1 := xu_eq
  have e5 : xu (xu (xu (xu m 1 (5 + n) r) 1 (35 + n) k) 1 (65 + n) st) 1 1 (n + 1) 1 (5 + n) = r := by simp (disch := omega) only [xu_ne, xu_eq]
  have e35 : xu (xu (xu (xu m 1 (5 + n) r) 1 (35 + n) k) 1 (65 + n) st) 1 1 (n + 1) 1 (35 + n) = k := by simp (disch := omega) only [xu_ne, xu_eq]
  have e65 : xu (xu (xu (xu m 1 (5 + n) r) 1 (35 + n) k) 1 (65 + n) st) 1 1 (n + 1) 1 (65 + n) = st := by simp (disch := omega) only [xu_ne, xu_eq]
  have kM : kp [0, 1, 3, 4, 5, 6, 7, 8, 9, 10, 11, 12, 13, 16, 18] m (xu (xu (xu (xu m 1 (5 + n) r) 1 (35 + n) k) 1 (65 + n) st) 1 1 (n + 1)) := kp_tr (kp_tr (kp_tr (kp_xu (by decide)) (kp_xu (by decide))) (kp_xu (by decide))) (kp_xu (by decide))
  have m0 : xu (xu (xu (xu m 1 (5 + n) r) 1 (35 + n) k) 1 (65 + n) st) 1 1 (n + 1) 0 = m 0 := by
    rw [xu_oth (by decide), xu_oth (by decide), xu_oth (by decide), xu_oth (by decide)]
  generalize hm' : xu (xu (xu (xu m 1 (5 + n) r) 1 (35 + n) k) 1 (65 + n) st) 1 1 (n + 1) = m' at *
  have hWp : WFp (m' 1) := by
    unfold WFp
    rw [es 0 (by omega) (by omega) (by omega) (by omega), es 2 (by omega) (by omega) (by omega) (by omega), e1]
    have row : ∀ p, 0 ≤ p → p < n → m' 1 (5 + p) = m 1 (5 + p) ∧ m' 1 (35 + p) = m 1 (35 + p) ∧ m' 1 (65 + p) = m 1 (65 + p) := fun p a b => ⟨es _ (by omega) (by omega) (by omega) (by omega), es _ (by omega) (by omega) (by omega) (by omega), es _ (by omega) (by omega) (by omega) (by omega)⟩
    refine ⟨w1, by omega, w3, fun p a b => ?_, fun p q a b c d ne e => ?_, fun j a b => ?_, fun t a b => ?_, fun t u a b c d e => ?_⟩
    · rcases (show p = n ∨ p < n by omega) with z | z
      · rw [z, e5, e35, e65]; exact ⟨hr, hk, hst⟩
      · rw [(row p a z).1, (row p a z).2.1, (row p a z).2.2]; exact w4 p a z
    · rcases (show p = n ∨ p < n by omega) with z | z
      · rcases (show q = n ∨ q < n by omega) with y | y
        · omega
        · rw [z, e5, (row q c y).1] at e
          rw [z, e35, (row q c y).2.1]
          have := hc q c y
          unfold clash at this
          omega
      · rcases (show q = n ∨ q < n by omega) with y | y
        · rw [y, e5, (row p a z).1] at e
          rw [y, e35, (row p a z).2.1]
          have := hc p a z
          unfold clash at this
          omega
        · rw [(row p a z).1, (row q c y).1] at e
          rw [(row p a z).2.1, (row q c y).2.1]
          exact w5 p q a z c y ne e
    · rw [es _ (by omega) (by omega) (by omega) (by omega)]; exact w6 j a b
    · rw [es _ (by omega) (by omega) (by omega) (by omega)]; exact w7 t a b
    · rw [es _ (by omega) (by omega) (by omega) (by omega), es _ (by omega) (by omega) (by omega) (by omega)] at e; exact w8 t u a b c d e
  have hWb : WFb (m' 1) := by
    refine WFb_mk0 (by rw [e1]; omega) (by rw [es 4 (by omega) (by omega) (by omega) (by omega)]; exact c3) (by rw [es 3 (by omega) (by omega) (by omega) (by omega), es 0 (by omega) (by omega) (by omega) (by omega)]; exact z1) (fun q a b => by rw [es _ (by omega) (by omega) (by omega) (by omega)]; exact z2 q a b) ?_
    rw [es 0 (by omega) (by omega) (by omega) (by omega)]
    exact thOK_congr z3 (fun t a b => ⟨es _ (by omega) (by omega) (by omega) (by omega), es _ (by omega) (by omega) (by omega) (by omega)⟩)
  refine hR.patU (kp_tr (kp_tr (kp_tr (kp_xu (by decide)) (kp_xu (by decide))) (kp_xu (by decide))) (kp_xu (by decide))) kM (by rw [m0]) (by rw [m0]) (by rw [m0]) ⟨hWp, hWb⟩ ?_ ?_
  · obtain ⟨q1, q2, q3, q4, ⟨f, q5, qf, qb⟩, q6, q7, q8⟩ := id r1
    refine RPat_of r1 i1.1 (es 0 (by omega) (by omega) (by omega) (by omega)) (es 2 (by omega) (by omega) (by omega) (by omega)) ?_ ?_ ?_ (fun q a b => ?_) ⟨f, ?_, qf, fun j hj => ?_⟩ (fun t a b => es _ (by omega) (by omega) (by omega) (by omega)) ?_
    · simp (disch := omega) only [xu_ne, xu_cn]; exact q1
    · rw [e1, xu_eq]
    · simp (disch := omega) only [xu_ne, xu_cn]; exact q3
    · rw [e1] at b
      rcases (show q = n ∨ q < n by omega) with z | z
      · rw [z, e5, e35, e65]
        simp (disch := omega) only [xu_cn, xu_eq]
        exact ⟨trivial, trivial, trivial⟩
      · rw [es _ (by omega) (by omega) (by omega) (by omega), es _ (by omega) (by omega) (by omega) (by omega), es _ (by omega) (by omega) (by omega) (by omega)]
        simp (disch := omega) only [xu_cn, xu_ne]
        exact q4 q a (by omega)
    · simp (disch := omega) only [xu_ne, xu_cn]; exact q5
    · rw [es _ (by omega) (by omega) (by omega) (by omega)]; exact qb j hj
    · rw [xu_oth (by decide), xu_oth (by decide), xu_oth (by decide), xu_oth (by decide)]
  · refine RBen_of r2 i1 ?_ ?_ ?_ ?_ ?_ (fun i a b => es i (by omega) (by omega) (by omega) (by omega)) <;> rw [xu_oth (by decide), xu_oth (by decide), xu_oth (by decide), xu_oth (by decide)]
theorem M_pin60 {d : Nat} {r k st : Int} {h : xH} {Q : Int → xH → Prop} (hd : 1 ≤ d) (hW : WFp (h 1)) (hr : 0 ≤ r ∧ r ≤ 99) (hk : 0 ≤ k ∧ k ≤ 10) (hx : (∃ p, 0 ≤ p ∧ p < h 1 1 ∧ clash (h 1) r k p) → Q (-3) h) (hf : (∀ p, 0 ≤ p → p < h 1 1 → ¬ clash (h 1) r k p) → h 1 1 = 30 → Q (-4) h) (hn : (∀ p, 0 ≤ p → p < h 1 1 → ¬ clash (h 1) r k p) → h 1 1 < 30 → Q (h 1 1) (xu (xu (xu (xu h 1 (5 + h 1 1) r) 1 (35 + h 1 1) k) 1 (65 + h 1 1) st) 1 1 (h 1 1 + 1))) : gI wdM d mX8_pin 60 [some (.inr (.inr 0)), some (.inl r), some (.inl k), some (.inl st), some (.inl 0)] h Q := by
  obtain ⟨w1, w2, w3, w4, w5, w6, w7, w8⟩ := id hW
  have lp : ∀ t : Int, t ≤ h 1 1 → 0 ≤ t → (∀ p, 0 ≤ p → p < t → ¬ clash (h 1) r k p) → gI wdM d mX8_pin 60 [some (.inr (.inr 0)), some (.inl r), some (.inl k), some (.inl st), some (.inl t)] h Q := by
    refine dn ?_ ?_
    · intro _ hc
      refine sg_X8_pin_60 hd ⟨⟨inI_s (by omega) (by omega), inI_s (by omega) (by omega)⟩, fun _ => ⟨inI_s (by omega) (by omega), fun z => ?_, fun z => hf hc z⟩, fun z => absurd z (by omega)⟩
      have h9 := hn hc (by omega)
      simp (disch := omega) only [xu_ne]
      refine ⟨by omega, by omega, by omega, ?_⟩
      rw [show h 1 1 + 1 - 1 = h 1 1 by omega]
      exact h9
    · intro t ht ih t0 hc
      have a := w4 t t0 ht
      have nx : ¬ clash (h 1) r k t → gI wdM d mX8_pin 60 [some (.inr (.inr 0)), some (.inl r), some (.inl k), some (.inl st), some (.inl (t + 1))] h Q := fun z => ih (by omega) (fun p p0 p1 => by
        rcases (show p = t ∨ p < t by omega) with e | e
        · rw [e]; exact z
        · exact hc p p0 e)
      refine sg_X8_pin_60 hd ⟨⟨inI_s (by omega) (by omega), inI_s (by omega) (by omega)⟩, fun z => absurd z (by omega), fun _ => ⟨by omega, ⟨inI_s (by omega) (by omega), inI_s (by omega) (by omega)⟩, fun z => nx (fun y => z y.1), fun z => M_shares (by omega) (by omega) (inI_s (by omega) (by omega)) (fun y => hx ⟨t, t0, ht, z, by unfold shr at y; omega⟩) (fun y => M_shares (by omega) (by omega) (inI_s (by omega) (by omega)) (fun y2 => hx ⟨t, t0, ht, z, by unfold shr at y2; omega⟩) (fun y2 => nx ?_))⟩⟩
      unfold clash shr at *
      omega
  exact lp 0 (by omega) (by omega) (fun p a b => by omega)
theorem C_addPin {d : Nat} {r k st : Int} {h : xH} {s : Int → Int} {Q : Int → xH → Prop} (hd : 1 ≤ d) (hW : WFp s) (hR : RPat h 1 2 3 4 5 s) (hr : 0 ≤ r ∧ r ≤ 99) (hk : 0 ≤ k ∧ k ≤ 10) (hx : (∃ p, 0 ≤ p ∧ p < s 1 ∧ clash s r k p) → Q (-3) h) (hf : (∀ p, 0 ≤ p → p < s 1 → ¬ clash s r k p) → s 1 = 30 → Q (-4) h) (hn : (∀ p, 0 ≤ p → p < s 1 → ¬ clash s r k p) → s 1 < 30 → Q (s 1) (xu (xu (xu (xu h 2 (s 1) r) 3 (s 1) k) 4 (s 1) st) 1 2 (s 1 + 1))) : cI wdC d mX3_addPin [.inr (.inr 1), .inl r, .inl k, .inl st] h Q := by
  obtain ⟨w1, w2, w3, w4, w5, w6, w7, w8⟩ := id hW
  obtain ⟨q1, q2, q3, q4, -, q6, q7, q8⟩ := id hR
  have lp : ∀ t : Int, t ≤ s 1 → 0 ≤ t → (∀ p, 0 ≤ p → p < t → ¬ clash s r k p) → gI wdC d mX3_addPin 3 [some (.inr (.inr 1)), some (.inl r), some (.inl k), some (.inl st), some (.inl t)] h Q := by
    refine dn ?_ ?_
    · intro _ hc
      refine sg_X3_addPin_3 hd ⟨⟨inI_s (by omega) (by omega), inI_s (by omega) (by omega)⟩, fun _ => ⟨inI_s (by omega) (by omega), fun z => ⟨by omega, by omega, by omega, ?_⟩, fun z => hf hc (by omega)⟩, fun z => absurd z (by omega)⟩
      have := hn hc (by omega)
      rw [q2, show s 1 + 1 - 1 = s 1 by omega]
      exact this
    · intro t ht ih t0 hc
      have a := w4 t t0 ht
      have b := q4 t t0 ht
      have nx : ¬ clash s r k t → gI wdC d mX3_addPin 3 [some (.inr (.inr 1)), some (.inl r), some (.inl k), some (.inl st), some (.inl (t + 1))] h Q := fun z => ih (by omega) (fun p p0 p1 => by
        rcases (show p = t ∨ p < t by omega) with e | e
        · rw [e]; exact z
        · exact hc p p0 e)
      refine sg_X3_addPin_3 hd ⟨⟨inI_s (by omega) (by omega), inI_s (by omega) (by omega)⟩, fun z => absurd z (by omega), fun _ => ⟨by omega, ⟨by rw [b.1]; exact inI_s (by omega) (by omega), inI_s (by omega) (by omega)⟩, fun z => nx (fun y => z (by rw [b.1]; exact y.1)), fun z => ⟨by omega, by rw [b.2.1]; exact inI_s (by omega) (by omega), by rw [b.2.1]; exact inI_s (by omega) (by omega), fun z2 => nx ?_, fun z2 => hx ⟨t, t0, ht, by rw [← b.1]; exact z, ?_⟩⟩⟩⟩
      · rw [b.2.1] at z2; unfold clash; omega
      · rw [b.2.1] at z2; omega
  exact sg_X3_addPin_0 (lp 0 (by omega) (by omega) (fun p a b => by omega))
theorem A_pin {d : Nat} (hd : 12 ≤ d) (r k st : Int) (hr : inI r) (hk : inI k) (hst : inI st) : AId d mX7_pin mX8_pin [.inl r, .inl k, .inl st] := by
  intro h m hR
  obtain ⟨⟨i1, i2, i3, i4, i5, i6, i7, i8, i9⟩, r1, r2, r3, r4, r5, r6, r7⟩ := id hR
  obtain ⟨w1, w2, w3, w4, w5, w6, w7, w8⟩ := id i1.1
  have v2 := i1.2.2.1
  have e0 := r1.1
  have e4 := r2.2.2.1
  have c1d : Decidable (0 ≤ r ∧ r ≤ 99) := inferInstance
  by_cases c1 : 0 ≤ r ∧ r ≤ 99
  · by_cases c2 : 0 ≤ k ∧ k ≤ m 1 0 - 2
    · by_cases c5 : 0 ≤ st ∧ st ≤ 4
      · by_cases c3 : m 1 4 = 0
        · -- three ends
          have go : ∀ (a : Int) (PC PM : xH → Prop), ((∃ p, 0 ≤ p ∧ p < m 1 1 ∧ clash (m 1) r k p) → a = -3 ∧ PC h ∧ PM m) → ((∀ p, 0 ≤ p → p < m 1 1 → ¬ clash (m 1) r k p) → m 1 1 = 30 → a = -4 ∧ PC h ∧ PM m) → ((∀ p, 0 ≤ p → p < m 1 1 → ¬ clash (m 1) r k p) → m 1 1 < 30 → a = m 1 1 ∧ PC (xu (xu (xu (xu h 2 (m 1 1) r) 3 (m 1 1) k) 4 (m 1 1) st) 1 2 (m 1 1 + 1)) ∧ PM (xu (xu (xu (xu m 1 (5 + m 1 1) r) 1 (35 + m 1 1) k) 1 (65 + m 1 1) st) 1 1 (m 1 1 + 1))) →
              cI wdC d mX7_pin (.inr (.inr 0) :: [.inl r, .inl k, .inl st]) h (fun n h' => n = a ∧ PC h') ∧ cI wdM d mX8_pin (.inr (.inr 0) :: [.inl r, .inl k, .inl st]) m (fun n m' => n = a ∧ PM m') := by
            intro a PC PM x1 x2 x3
            refine ⟨?_, ?_⟩
            · exact sg_X7_pin_0 (by omega) (C_isRow hr (fun _ => C_isPinSlot hk (by omega) (fun _ => C_isStitch hst (fun _ => C_anyDone (by omega) (fun z => by omega) (fun _ => C_addPin (by omega) i1.1 r1 c1 (by omega) (fun z => ⟨(x1 z).1.symm, (x1 z).2.1⟩) (fun z y => ⟨(x2 z y).1.symm, (x2 z y).2.1⟩) (fun z y => ⟨(x3 z y).1.symm, (x3 z y).2.1⟩))) (fun z => absurd c5 z)) (fun z => absurd (by omega) z)) (fun z => absurd c1 z))
            · exact sg_X8_pin_0 (by omega) ⟨hr, M_isIn (inL_I hr) (by unfold inL; omega) (by unfold inL; omega) (fun _ => ⟨hk, inI_s (by omega) (by omega), M_isIn (inL_I hk) (by unfold inL; omega) (by unfold inL; omega) (fun _ => ⟨hst, M_isIn (inL_I hst) (by unfold inL; omega) (by unfold inL; omega) (fun _ => ⟨inI_s (by omega) (by omega), fun _ => M_pin60 (by omega) i1.1 c1 (by omega) (fun z => ⟨(x1 z).1.symm, (x1 z).2.2⟩) (fun z y => ⟨(x2 z y).1.symm, (x2 z y).2.2⟩) (fun z y => ⟨(x3 z y).1.symm, (x3 z y).2.2⟩), by omega⟩) (fun z => absurd c5 z)⟩) (fun z => absurd c2 z)⟩) (fun z => absurd c1 z)⟩
          by_cases cc : ∃ p, 0 ≤ p ∧ p < m 1 1 ∧ clash (m 1) r k p
          · obtain ⟨g1, g2⟩ := go (-3) (keepC h) (keepM m) (fun _ => ⟨rfl, keepC_rf h, keepM_rf m⟩) (fun z => by obtain ⟨p, a, b, c⟩ := cc; exact absurd c (z p a b)) (fun z => by obtain ⟨p, a, b, c⟩ := cc; exact absurd c (z p a b))
            exact ⟨-3, keepC h, keepM m, inI_s (by omega) (by omega), g1, g2, fun h' m' a b => hR.keep a b⟩
          · have cn : ∀ p, 0 ≤ p → p < m 1 1 → ¬ clash (m 1) r k p := fun p a b c => cc ⟨p, a, b, c⟩
            by_cases c30 : m 1 1 = 30
            · obtain ⟨g1, g2⟩ := go (-4) (keepC h) (keepM m) (fun z => absurd z cc) (fun _ _ => ⟨rfl, keepC_rf h, keepM_rf m⟩) (fun _ z => by omega)
              exact ⟨-4, keepC h, keepM m, inI_s (by omega) (by omega), g1, g2, fun h' m' a b => hR.keep a b⟩
            · obtain ⟨g1, g2⟩ := go (m 1 1) (fun h' => h' = xu (xu (xu (xu h 2 (m 1 1) r) 3 (m 1 1) k) 4 (m 1 1) st) 1 2 (m 1 1 + 1)) (fun m' => m' = xu (xu (xu (xu m 1 (5 + m 1 1) r) 1 (35 + m 1 1) k) 1 (65 + m 1 1) st) 1 1 (m 1 1 + 1)) (fun z => absurd z cc) (fun _ z => by omega) (fun _ _ => ⟨rfl, rfl, rfl⟩)
              exact ⟨m 1 1, _, _, inI_s (by omega) (by omega), g1, g2, fun h' m' a b => pin_rel hR c3 (by omega) c1 c2 c5 cn a b⟩
        · refine A_ref hR ⟨-3, inI_s (by omega) (by omega), ?_, ?_⟩
          · exact sg_X7_pin_0 (by omega) (C_isRow hr (fun _ => C_isPinSlot hk (by omega) (fun _ => C_isStitch hst (fun _ => C_anyDone (by omega) (fun z => ⟨rfl, keepC_rf h⟩) (fun _ => by omega)) (fun z => absurd c5 z)) (fun z => absurd (by omega) z)) (fun z => absurd c1 z))
          · exact sg_X8_pin_0 (by omega) ⟨hr, M_isIn (inL_I hr) (by unfold inL; omega) (by unfold inL; omega) (fun _ => ⟨hk, inI_s (by omega) (by omega), M_isIn (inL_I hk) (by unfold inL; omega) (by unfold inL; omega) (fun _ => ⟨hst, M_isIn (inL_I hst) (by unfold inL; omega) (by unfold inL; omega) (fun _ => ⟨inI_s (by omega) (by omega), by omega, fun _ => ⟨rfl, keepM_rf m⟩⟩) (fun z => absurd c5 z)⟩) (fun z => absurd c2 z)⟩) (fun z => absurd c1 z)⟩
      · refine A_ref hR ⟨-2, inI_s (by omega) (by omega), ?_, ?_⟩
        · exact sg_X7_pin_0 (by omega) (C_isRow hr (fun _ => C_isPinSlot hk (by omega) (fun _ => C_isStitch hst (fun z => absurd z c5) (fun z => ⟨rfl, keepC_rf h⟩)) (fun z => absurd (by omega) z)) (fun z => absurd c1 z))
        · exact sg_X8_pin_0 (by omega) ⟨hr, M_isIn (inL_I hr) (by unfold inL; omega) (by unfold inL; omega) (fun _ => ⟨hk, inI_s (by omega) (by omega), M_isIn (inL_I hk) (by unfold inL; omega) (by unfold inL; omega) (fun _ => ⟨hst, M_isIn (inL_I hst) (by unfold inL; omega) (by unfold inL; omega) (fun z => absurd z c5) (fun z => ⟨rfl, keepM_rf m⟩)⟩) (fun z => absurd c2 z)⟩) (fun z => absurd c1 z)⟩
    · refine A_ref hR ⟨-2, inI_s (by omega) (by omega), ?_, ?_⟩
      · exact sg_X7_pin_0 (by omega) (C_isRow hr (fun _ => C_isPinSlot hk (by omega) (fun z => absurd (by omega) c2) (fun z => ⟨rfl, keepC_rf h⟩)) (fun z => absurd c1 z))
      · exact sg_X8_pin_0 (by omega) ⟨hr, M_isIn (inL_I hr) (by unfold inL; omega) (by unfold inL; omega) (fun _ => ⟨hk, inI_s (by omega) (by omega), M_isIn (inL_I hk) (by unfold inL; omega) (by unfold inL; omega) (fun z => absurd z c2) (fun z => ⟨rfl, keepM_rf m⟩)⟩) (fun z => absurd c1 z)⟩
  · refine A_ref hR ⟨-2, inI_s (by omega) (by omega), ?_, ?_⟩
    · exact sg_X7_pin_0 (by omega) (C_isRow hr (fun z => absurd z c1) (fun z => ⟨rfl, keepC_rf h⟩))
    · exact sg_X8_pin_0 (by omega) ⟨hr, M_isIn (inL_I hr) (by unfold inL; omega) (by unfold inL; omega) (fun z => absurd z c1) (fun z => ⟨rfl, keepM_rf m⟩)⟩
