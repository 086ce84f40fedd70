/-! telling one part: what comes of it hangs on the row s alone, and the class's pattern alone changes -/
def prow (m : xH) (f : Int → Int) : xH := fun c => if c = 1 then f else m c
theorem prow_1 (m : xH) (f : Int → Int) : prow m f 1 = f := rfl
theorem prow_kp (m : xH) (f : Int → Int) : kp [1] m (prow m f) := fun c hc => by
  show (if c = 1 then f else m c) = m c
  rw [if_neg (by simpa using hc)]
theorem prow_self (m : xH) : prow m (m 1) = m := by
  funext c
  unfold prow
  by_cases z : c = 1
  · rw [if_pos z, z]
  · rw [if_neg z]
theorem prow_xu (m : xH) (f : Int → Int) (i v : Int) : xu (prow m f) 1 i v = prow m (up1 f i v) := by
  funext c j
  unfold xu prow up1
  by_cases z : c = 1
  · rw [if_pos z, z]; simp
  · rw [if_neg (fun y => z y.1), if_neg z, if_neg z]
theorem xu_prow (m : xH) (i v : Int) : xu m 1 i v = prow m (up1 (m 1) i v) := by
  have := prow_xu m (m 1) i v
  rw [prow_self] at this
  exact this
def SDs (d : Nat) (mC mM : xM) (as : List xV) : Prop := ∀ s : Int → Int, WF s → ∃ (r : Int) (s1 : Int → Int), inI r ∧ WF s1 ∧ (0 < s 4 → r < 0) ∧ ∀ m : xH, InvM m → m 1 = s → cI wdM d mM (.inr (.inr 0) :: as) m (fun n m' => n = r ∧ m' = prow m s1) ∧ ∀ h, Rel h m → cI wdC d mC (.inr (.inr 0) :: as) h (fun n h' => n = r ∧ Rel h' (prow m s1) ∧ kp [1, 2, 3, 4, 5] h h')
theorem SD_ref {d : Nat} {mC mM : xM} {as : List xV} {s : Int → Int} (hW : WF s) (r : Int) (hr : inI r) (h0 : r < 0) (H : ∀ m : xH, InvM m → m 1 = s → cI wdM d mM (.inr (.inr 0) :: as) m (fun n m' => n = r ∧ m' = m) ∧ ∀ h, Rel h m → cI wdC d mC (.inr (.inr 0) :: as) h (fun n h' => n = r ∧ h' = h)) :
    ∃ (r : Int) (s1 : Int → Int), inI r ∧ WF s1 ∧ (0 < s 4 → r < 0) ∧ ∀ m : xH, InvM m → m 1 = s → cI wdM d mM (.inr (.inr 0) :: as) m (fun n m' => n = r ∧ m' = prow m s1) ∧ ∀ h, Rel h m → cI wdC d mC (.inr (.inr 0) :: as) h (fun n h' => n = r ∧ Rel h' (prow m s1) ∧ kp [1, 2, 3, 4, 5] h h') := by
  refine ⟨r, s, hr, hW, fun _ => h0, fun m hI hm => ?_⟩
  obtain ⟨a, b⟩ := H m hI hm
  rw [← hm, prow_self]
  exact ⟨a, fun h hR => gI_mono (b h hR) (fun n h' z => ⟨z.1, by rw [z.2]; exact hR, by rw [z.2]; exact kp_rf _ _⟩)⟩
theorem D_fill {d : Nat} (hd : 12 ≤ d) (k v : Int) (hk : inI k) (hv : inI v) : SDs d mX7_fill mX8_fill [.inl k, .inl v] := by
  intro s i1
  obtain ⟨w1, w2, w3, w4, w5, w6, w7, w8⟩ := id i1.1
  have v2 := i1.2.2.1
  by_cases c1 : 0 ≤ k ∧ k < s 0
  · by_cases c3 : s 4 = 0
    · have a := w6 k c1.1 (by omega)
      refine ⟨s (125 + k), up1 s (125 + k) (b2i (decide (v ≠ 0))), inI_s (by omega) (by omega), WF_fill i1 (by omega) (b2i_01 _), fun z => by omega, fun m hI hm => ?_⟩
      subst hm
      rw [← xu_prow]
      refine ⟨?_, fun h hR => ?_⟩
      · refine sg_X8_fill_0 (by omega) (M_isSlot (by omega) hk (by omega) (fun _ => ⟨inI_s (by omega) (by omega), fun _ => ⟨hv, fun z => M_becomes (by omega) ⟨rfl, ?_⟩, fun z => M_becomes (by omega) ⟨rfl, ?_⟩⟩, by omega⟩) (fun z => absurd c1 z))
        · rw [decide_eq_false (fun q => q z)]; rfl
        · rw [decide_eq_true z]; rfl
      · obtain ⟨-, r1, r2, -⟩ := id hR
        obtain ⟨q1, q2, q3, q4, ⟨f, q5, qf, qb⟩, q6, q7, q8⟩ := id r1
        have e4 := r2.2.2.1
        have eb := qb k.toNat (by omega)
        rw [show ((k.toNat : Nat) : Int) = k by omega] at eb
        exact sg_X7_fill_0 (by omega) (C_isSlot hk (by omega) (fun _ => C_anyDone (by omega) (fun z => by omega) (fun _ => C_fillAtFirst q5 qf (by omega) (by omega) hv ⟨eb.symm, fill_rel hR c1 c3 q5 qf qb, kp_xu (by decide)⟩)) (fun z => absurd (by omega) z))
    · refine SD_ref i1 (-3) (inI_s (by omega) (by omega)) (by omega) (fun m hI hm => ?_)
      subst hm
      refine ⟨?_, fun h hR => ?_⟩
      · exact sg_X8_fill_0 (by omega) (M_isSlot (by omega) hk (by omega) (fun _ => ⟨inI_s (by omega) (by omega), by omega, fun _ => ⟨rfl, rfl⟩⟩) (fun z => absurd c1 z))
      · have e0 := hR.2.1.1
        have e4 := hR.2.2.1.2.2.1
        exact sg_X7_fill_0 (by omega) (C_isSlot hk (by omega) (fun _ => C_anyDone (by omega) (fun z => ⟨rfl, rfl⟩) (fun _ => by omega)) (fun z => absurd (by omega) z))
  · refine SD_ref i1 (-1) (inI_s (by omega) (by omega)) (by omega) (fun m hI hm => ?_)
    subst hm
    refine ⟨?_, fun h hR => ?_⟩
    · exact sg_X8_fill_0 (by omega) (M_isSlot (by omega) hk (by omega) (fun z => absurd z c1) (fun z => ⟨rfl, rfl⟩))
    · have e0 := hR.2.1.1
      exact sg_X7_fill_0 (by omega) (C_isSlot hk (by omega) (fun z => absurd (by omega) c1) (fun z => ⟨rfl, rfl⟩))
theorem D_pin {d : Nat} (hd : 12 ≤ d) (r k st : Int) (hr : inI r) (hk : inI k) (hst : inI st) : SDs d mX7_pin mX8_pin [.inl r, .inl k, .inl st] := by
  intro s i1
  obtain ⟨w1, w2, w3, w4, w5, w6, w7, w8⟩ := id i1.1
  have v2 := i1.2.2.1
  by_cases c1 : 0 ≤ r ∧ r ≤ 99
  · by_cases c2 : 0 ≤ k ∧ k ≤ s 0 - 2
    · by_cases c5 : 0 ≤ st ∧ st ≤ 4
      · by_cases c3 : s 4 = 0
        · have goM : ∀ m : xH, m 1 = s → ∀ (a : Int) (m1 : xH), ((∃ p, 0 ≤ p ∧ p < s 1 ∧ clash s r k p) → -3 = a ∧ m = m1) → ((∀ p, 0 ≤ p → p < s 1 → ¬ clash s r k p) → s 1 = 30 → -4 = a ∧ m = m1) → ((∀ p, 0 ≤ p → p < s 1 → ¬ clash s r k p) → s 1 < 30 → s 1 = a ∧ (xu (xu (xu (xu m 1 (5 + s 1) r) 1 (35 + s 1) k) 1 (65 + s 1) st) 1 1 (s 1 + 1)) = m1) →
              cI wdM d mX8_pin (.inr (.inr 0) :: [.inl r, .inl k, .inl st]) m (fun n m' => n = a ∧ m' = m1) := by
            intro m hm a m1 x1 x2 x3
            subst hm
            exact sg_X8_pin_0 (by omega) ⟨hr, M_isIn (inL_I hr) (by unfold inL; omega) (by unfold inL; omega) (fun _ => ⟨hk, inI_s (by omega) (by omega), M_isIn (inL_I hk) (by unfold inL; omega) (by unfold inL; omega) (fun _ => ⟨hst, M_isIn (inL_I hst) (by unfold inL; omega) (by unfold inL; omega) (fun _ => ⟨inI_s (by omega) (by omega), fun _ => M_pin60 (by omega) i1.1 c1 (by omega) x1 x2 x3, by omega⟩) (fun z => absurd c5 z)⟩) (fun z => absurd c2 z)⟩) (fun z => absurd c1 z)⟩
          have goC : ∀ m : xH, m 1 = s → ∀ h, Rel h m → ∀ (a : Int) (PC : xH → Prop), ((∃ p, 0 ≤ p ∧ p < s 1 ∧ clash s r k p) → -3 = a ∧ PC h) → ((∀ p, 0 ≤ p → p < s 1 → ¬ clash s r k p) → s 1 = 30 → -4 = a ∧ PC h) → ((∀ p, 0 ≤ p → p < s 1 → ¬ clash s r k p) → s 1 < 30 → s 1 = a ∧ PC (xu (xu (xu (xu h 2 (s 1) r) 3 (s 1) k) 4 (s 1) st) 1 2 (s 1 + 1))) →
              cI wdC d mX7_pin (.inr (.inr 0) :: [.inl r, .inl k, .inl st]) h (fun n h' => n = a ∧ PC h') := by
            intro m hm h hR a PC x1 x2 x3
            subst hm
            have r1 := hR.2.1
            have e0 := r1.1
            have e4 := hR.2.2.1.2.2.1
            exact sg_X7_pin_0 (by omega) (C_isRow hr (fun _ => C_isPinSlot hk (by omega) (fun _ => C_isStitch hst (fun _ => C_anyDone (by omega) (fun z => by omega) (fun _ => C_addPin (by omega) i1.1 r1 c1 (by omega) x1 x2 x3)) (fun z => absurd c5 z)) (fun z => absurd (by omega) z)) (fun z => absurd c1 z))
          by_cases cc : ∃ p, 0 ≤ p ∧ p < s 1 ∧ clash s r k p
          · exact SD_ref i1 (-3) (inI_s (by omega) (by omega)) (by omega) (fun m hI hm => ⟨goM m hm (-3) m (fun _ => ⟨rfl, rfl⟩) (fun z => by obtain ⟨p, a, b, c⟩ := cc; exact absurd c (z p a b)) (fun z => by obtain ⟨p, a, b, c⟩ := cc; exact absurd c (z p a b)),
              fun h hR => goC m hm h hR (-3) (fun h' => h' = h) (fun _ => ⟨rfl, rfl⟩) (fun z => by obtain ⟨p, a, b, c⟩ := cc; exact absurd c (z p a b)) (fun z => by obtain ⟨p, a, b, c⟩ := cc; exact absurd c (z p a b))⟩)
          · have cn : ∀ p, 0 ≤ p → p < s 1 → ¬ clash s r k p := fun p a b c => cc ⟨p, a, b, c⟩
            by_cases c30 : s 1 = 30
            · exact SD_ref i1 (-4) (inI_s (by omega) (by omega)) (by omega) (fun m hI hm => ⟨goM m hm (-4) m (fun z => absurd z cc) (fun _ _ => ⟨rfl, rfl⟩) (fun _ z => by omega), fun h hR => goC m hm h hR (-4) (fun h' => h' = h) (fun z => absurd z cc) (fun _ _ => ⟨rfl, rfl⟩) (fun _ z => by omega)⟩)
            · refine ⟨s 1, up1 (up1 (up1 (up1 s (5 + s 1) r) (35 + s 1) k) (65 + s 1) st) 1 (s 1 + 1), inI_s (by omega) (by omega), WF_pin i1 c3 (by omega) c1 c2 c5 cn (fun i a b c d => by rw [up1_ne a, up1_ne d, up1_ne c, up1_ne b]) up1_eq (by rw [up1_ne (by omega), up1_ne (by omega), up1_ne (by omega), up1_eq]) (by rw [up1_ne (by omega), up1_ne (by omega), up1_eq]) (by rw [up1_ne (by omega), up1_eq]), fun z => by omega, fun m hI hm => ?_⟩
              have e : prow m (up1 (up1 (up1 (up1 s (5 + s 1) r) (35 + s 1) k) (65 + s 1) st) 1 (s 1 + 1)) = xu (xu (xu (xu m 1 (5 + s 1) r) 1 (35 + s 1) k) 1 (65 + s 1) st) 1 1 (s 1 + 1) := by
                rw [← prow_xu, ← prow_xu, ← prow_xu, ← hm, ← xu_prow]
              rw [e]
              refine ⟨goM m hm _ _ (fun z => absurd z cc) (fun _ z => by omega) (fun _ _ => ⟨rfl, rfl⟩), fun h hR => goC m hm h hR _ _ (fun z => absurd z cc) (fun _ z => by omega) (fun _ _ => ⟨rfl, ?_, kp_tr (kp_tr (kp_tr (kp_xu (by decide)) (kp_xu (by decide))) (kp_xu (by decide))) (kp_xu (by decide))⟩)⟩
              subst hm
              exact pin_rel hR c3 (by omega) c1 c2 c5 cn rfl rfl
        · refine SD_ref i1 (-3) (inI_s (by omega) (by omega)) (by omega) (fun m hI hm => ?_)
          subst hm
          refine ⟨?_, fun h hR => ?_⟩
          · exact sg_X8_pin_0 (by omega) ⟨hr, M_isIn (inL_I hr) (by unfold inL; omega) (by unfold inL; omega) (fun _ => ⟨hk, inI_s (by omega) (by omega), M_isIn (inL_I hk) (by unfold inL; omega) (by unfold inL; omega) (fun _ => ⟨hst, M_isIn (inL_I hst) (by unfold inL; omega) (by unfold inL; omega) (fun _ => ⟨inI_s (by omega) (by omega), by omega, fun _ => ⟨rfl, rfl⟩⟩) (fun z => absurd c5 z)⟩) (fun z => absurd c2 z)⟩) (fun z => absurd c1 z)⟩
          · have e0 := hR.2.1.1
            have e4 := hR.2.2.1.2.2.1
            exact sg_X7_pin_0 (by omega) (C_isRow hr (fun _ => C_isPinSlot hk (by omega) (fun _ => C_isStitch hst (fun _ => C_anyDone (by omega) (fun z => ⟨rfl, rfl⟩) (fun _ => by omega)) (fun z => absurd c5 z)) (fun z => absurd (by omega) z)) (fun z => absurd c1 z))
      · refine SD_ref i1 (-2) (inI_s (by omega) (by omega)) (by omega) (fun m hI hm => ?_)
        subst hm
        refine ⟨?_, fun h hR => ?_⟩
        · exact sg_X8_pin_0 (by omega) ⟨hr, M_isIn (inL_I hr) (by unfold inL; omega) (by unfold inL; omega) (fun _ => ⟨hk, inI_s (by omega) (by omega), M_isIn (inL_I hk) (by unfold inL; omega) (by unfold inL; omega) (fun _ => ⟨hst, M_isIn (inL_I hst) (by unfold inL; omega) (by unfold inL; omega) (fun z => absurd z c5) (fun z => ⟨rfl, rfl⟩)⟩) (fun z => absurd c2 z)⟩) (fun z => absurd c1 z)⟩
        · have e0 := hR.2.1.1
          exact sg_X7_pin_0 (by omega) (C_isRow hr (fun _ => C_isPinSlot hk (by omega) (fun _ => C_isStitch hst (fun z => absurd z c5) (fun z => ⟨rfl, rfl⟩)) (fun z => absurd (by omega) z)) (fun z => absurd c1 z))
    · refine SD_ref i1 (-2) (inI_s (by omega) (by omega)) (by omega) (fun m hI hm => ?_)
      subst hm
      refine ⟨?_, fun h hR => ?_⟩
      · exact sg_X8_pin_0 (by omega) ⟨hr, M_isIn (inL_I hr) (by unfold inL; omega) (by unfold inL; omega) (fun _ => ⟨hk, inI_s (by omega) (by omega), M_isIn (inL_I hk) (by unfold inL; omega) (by unfold inL; omega) (fun z => absurd z c2) (fun z => ⟨rfl, rfl⟩)⟩) (fun z => absurd c1 z)⟩
      · have e0 := hR.2.1.1
        exact sg_X7_pin_0 (by omega) (C_isRow hr (fun _ => C_isPinSlot hk (by omega) (fun z => absurd (by omega) c2) (fun z => ⟨rfl, rfl⟩)) (fun z => absurd c1 z))
  · refine SD_ref i1 (-2) (inI_s (by omega) (by omega)) (by omega) (fun m hI hm => ?_)
    subst hm
    refine ⟨?_, fun h hR => ?_⟩
    · exact sg_X8_pin_0 (by omega) ⟨hr, M_isIn (inL_I hr) (by unfold inL; omega) (by unfold inL; omega) (fun z => absurd z c1) (fun z => ⟨rfl, rfl⟩)⟩
    · exact sg_X7_pin_0 (by omega) (C_isRow hr (fun z => absurd z c1) (fun z => ⟨rfl, rfl⟩))
/-- the reference's row of turns behind one that goes -/
def trm (s : Int → Int) (n p : Int) : Int → Int := fun j => if j = 2 then n - 1 else if 137 + p ≤ j ∧ j < 137 + (n - 1) then s (j + 1) else s j
theorem M_turnRem2 {d : Nat} {n p : Int} {m m0 : xH} {Q : Int → xH → Prop} (hm : m = xu m0 1 2 (n - 1)) (h0 : 0 < n ∧ n ≤ 10) (hp : 0 ≤ p ∧ p < n) (hq : Q (n - 1) (prow m0 (trm (m0 1) n p))) : gI wdM d mX8_turn 90 [some (.inr (.inr 0)), none, none, none, none, some (.inl p)] m Q := by
  have lp : ∀ i : Int, i ≤ n - 1 → p ≤ i → ∀ m1 : xH, kp [1] m m1 → (∀ j, m1 1 j = if 137 + p ≤ j ∧ j < 137 + i then m 1 (j + 1) else m 1 j) → gI wdM d mX8_turn 90 [some (.inr (.inr 0)), none, none, none, none, some (.inl i)] m1 Q := by
    have hn : m 1 2 = n - 1 := by rw [hm, xu_eq]
    refine dn ?_ ?_
    · intro _ m1 k hj
      have e2 : m1 1 2 = n - 1 := by rw [hj, if_neg (by omega)]; exact hn
      have em : m1 = prow m0 (trm (m0 1) n p) := by
        funext c j
        unfold prow trm
        by_cases z : c = 1
        · rw [z, if_pos rfl, hj, hm]
          by_cases y : j = 2
          · rw [y, if_neg (by omega), xu_eq, if_pos rfl]
          · rw [if_neg y]
            by_cases x : 137 + p ≤ j ∧ j < 137 + (n - 1)
            · rw [if_pos x, if_pos x, xu_ne (by omega)]
            · rw [if_neg x, if_neg x, xu_ne y]
        · rw [if_neg z, k c (by simpa using z), hm, xu_cn z]
      refine sg_X8_turn_90 ?_
      rw [e2]
      exact ⟨⟨inI_s (by omega) (by omega), inI_s (by omega) (by omega)⟩, fun _ => by rw [em]; exact hq, fun z => absurd z (by omega)⟩
    · intro i hi ih hpi m1 k hj
      have e2 : m1 1 2 = n - 1 := by rw [hj, if_neg (by omega)]; exact hn
      refine sg_X8_turn_90 ?_
      rw [e2]
      refine ⟨⟨inI_s (by omega) (by omega), inI_s (by omega) (by omega)⟩, fun z => absurd z (by omega), fun _ => ⟨by omega, by omega, ih (by omega) _ (kp_tr k (kp_xu (by decide))) (fun j => ?_)⟩⟩
      by_cases z : j = 137 + i
      · rw [z, xu_eq, if_pos (by omega), hj, if_neg (by omega)]
      · rw [xu_ne z, hj]
        by_cases y : 137 + p ≤ j ∧ j < 137 + i
        · rw [if_pos y, if_pos (by omega)]
        · rw [if_neg y, if_neg (by omega)]
  exact lp p (by omega) (by omega) m (kp_rf _ _) (fun j => by rw [if_neg (by omega)])
theorem M_turnL2 {d : Nat} {n c : Int} {m : xH} {Q : Int → xH → Prop} (hn : m 1 2 = n) (h0 : 0 ≤ n ∧ n ≤ 10) (hc : inI c) (hr : ∀ t, 0 ≤ t → t < n → inI (m 1 (137 + t)))
    (hin : ∀ p, 0 ≤ p → p < n → m 1 (137 + p) = c → Q (n - 1) (prow m (trm (m 1) n p)))
    (hfull : ¬ tst (fun t => m 1 (137 + t)) n c → n = 10 → Q (-4) m)
    (hadd : ¬ tst (fun t => m 1 (137 + t)) n c → n < 10 → Q (n + 1) (xu (xu m 1 (137 + n) c) 1 2 (n + 1))) : gI wdM d mX8_turn 47 [some (.inr (.inr 0)), none, none, some (.inl c), some (.inl 0), none] m Q := by
  have lp : ∀ t : Int, t ≤ n → 0 ≤ t → (∀ u, 0 ≤ u → u < t → ¬ m 1 (137 + u) = c) → gI wdM d mX8_turn 47 [some (.inr (.inr 0)), none, none, some (.inl c), some (.inl t), none] m Q := by
    refine dn ?_ ?_
    · intro _ hk
      have no : ¬ tst (fun t => m 1 (137 + t)) n c := fun ⟨t, a, b, e⟩ => hk t a b e
      refine sg_X8_turn_47 ?_
      rw [xu_ne (show (2 : Int) ≠ 137 + m 1 2 by omega), hn]
      exact ⟨⟨inI_s (by omega) (by omega), inI_s (by omega) (by omega)⟩, fun _ => ⟨inI_s (by omega) (by omega), fun z => ⟨by omega, hadd no (by omega)⟩, fun z => hfull no z⟩, fun z => absurd z (by omega)⟩
    · intro t ht ih t0 hk
      refine sg_X8_turn_47 ?_
      rw [hn]
      refine ⟨⟨inI_s (by omega) (by omega), inI_s (by omega) (by omega)⟩, fun z => absurd z (by omega), fun _ => ⟨by omega, ⟨hr t t0 ht, hc⟩, fun z => M_turnRem2 (n := n) rfl (by omega) ⟨t0, ht⟩ (hin t t0 ht z), fun z => ih (by omega) (fun u a b => ?_)⟩⟩
      by_cases y : u = t
      · rw [y]; exact z
      · exact hk u a (by omega)
  exact lp 0 (by omega) (by omega) (fun u a b => by omega)
theorem D_turn {d : Nat} (hd : 12 ≤ d) (k r : Int) (hk : inI k) (hr : inI r) : SDs d mX7_turn mX8_turn [.inl k, .inl r] := by
  intro s i1
  obtain ⟨w1, w2, w3, w4, w5, w6, w7, w8⟩ := id i1.1
  have v2 := i1.2.2.1
  by_cases c1 : 0 ≤ k ∧ k < s 0
  · by_cases c2 : 0 ≤ r ∧ r ≤ 99
    · by_cases c3 : s 4 = 0
      · have ecv : cvT (r * 16 + k) = 100 * k + r := cvT_code (by omega)
        have eq5 : ∀ (m h : xH), m 1 = s → Rel h m → (tst (h 5) (m 1 2) (r * 16 + k) ↔ tst (fun t => m 1 (137 + t)) (m 1 2) (100 * k + r)) := fun m h hm hR => by
          subst hm
          have hr5 : ∀ t, 0 ≤ t → t < m 1 2 → 0 ≤ h 5 t ∧ h 5 t < 1600 := fun t a b => by have := hR.2.1.2.2.2.2.2.1 t a b; exact ⟨this.1, this.2.1⟩
          have hE := fun a => hR.2.1.tst i1.1 a
          rw [← hE, tst_map (f := h 5) (g := cvT)]
          constructor
          · intro z; exact ⟨_, z, ecv⟩
          · intro ⟨b, ⟨t, a0, a1, e⟩, z⟩
            have := hr5 t a0 a1
            rw [← ecv] at z
            have := cvT_inj (by rw [← e]; exact this) (by omega) z
            rw [← this]; exact ⟨t, a0, a1, e⟩
        have hrm : ∀ t, 0 ≤ t → t < s 2 → inI (s (137 + t)) := fun t a b => inI_s (by have := w7 t a b; omega) (by have := w7 t a b; omega)
        by_cases c4 : tst (fun t => s (137 + t)) (s 2) (100 * k + r)
        · -- it is taken away
          have n0 : 0 < s 2 := by obtain ⟨t, a, b, -⟩ := c4; omega
          obtain ⟨p', hp0, hp1, ep'⟩ := id c4
          have ep' : s (137 + p') = 100 * k + r := ep'
          have B := tst_rem (f := fun t => s (137 + t)) (g := fun t => trm s (s 2) p' (137 + t)) ⟨hp0, hp1⟩ w8 (fun t a b => by
              unfold trm
              rw [if_neg (by omega)]
              by_cases z : p' ≤ t
              · rw [if_pos (by omega), if_pos z, show 137 + t + 1 = 137 + (t + 1) by omega]
              · rw [if_neg (by omega), if_neg z])
          have t2 : trm s (s 2) p' 2 = s 2 - 1 := by unfold trm; rw [if_pos rfl]
          have hWF : WF (trm s (s 2) p') := by
            refine WF_turn i1 (fun j a b => ?_) (by rw [t2]; omega) (fun t a b => ?_) (by rw [t2]; exact B.2)
            · unfold trm
              rw [if_neg a, if_neg (by omega)]
            · rw [t2] at b
              unfold trm
              rw [if_neg (by omega)]
              split
              · rw [show 137 + t + 1 = 137 + (t + 1) by omega]; exact w7 _ (by omega) (by omega)
              · exact w7 _ (by omega) (by omega)
          clear B
          refine ⟨s 2 - 1, trm s (s 2) p', inI_s (by omega) (by omega), hWF, fun z => by omega, fun m hI hm => ?_⟩
          have eq5 := eq5 m
          subst hm
          refine ⟨?_, fun h hR => ?_⟩
          · refine sg_X8_turn_0 (by omega) (M_isSlot (by omega) hk (by omega) (fun _ => ⟨hr, M_isIn (inL_I hr) (by unfold inL; omega) (by unfold inL; omega) (fun _ => ⟨inI_s (by omega) (by omega), fun _ => M_turnL2 rfl w3 (inI_s (by omega) (by omega)) hrm (fun p a b e => ⟨rfl, ?_⟩) (fun z => absurd c4 z) (fun z => absurd c4 z), by omega⟩) (fun z => absurd (by omega) z)⟩) (fun z => absurd c1 z))
            have : p = p' := w8 p p' a b hp0 hp1 (e.trans ep'.symm)
            rw [this]
          · obtain ⟨-, r1, r2, -⟩ := id hR
            obtain ⟨q1, q2, q3, q4, -, q6, q7, q8⟩ := id r1
            have e4 := r2.2.2.1
            have hE := fun a => r1.tst i1.1 a
            have hr5 : ∀ t, 0 ≤ t → t < m 1 2 → 0 ≤ h 5 t ∧ h 5 t < 1600 := fun t a b => ⟨(q6 t a b).1, (q6 t a b).2.1⟩
            have ij : inj1 (h 5) (m 1 2) := fun t u a b c d e => by
              rcases (show t < u ∨ t = u ∨ u < t by omega) with z | z | z
              · have := q7 t u a z d; omega
              · exact z
              · have := q7 u t c z b; omega
            have ijc : inj1 (fun t => cvT (h 5 t)) (m 1 2) := fun t u a b c d e => ij t u a b c d (cvT_inj (hr5 t a b) (hr5 u c d) e)
            refine sg_X7_turn_0 (by omega) (C_isSlot hk (by omega) (fun _ => C_isRow hr (fun _ => C_anyDone (by omega) (fun z => by omega) (fun _ => sg_X3_turnAt_0 (by omega) (C_turnNumber (by omega) c2 (C_placeOfTurn q3 w3 hr5 (inI_s (by omega) (by omega)) (fun p ip a b => ⟨ip, fun z => absurd ((eq5 h rfl hR).mpr c4) (a z), fun z => C_removeTurn q3 w3 ⟨z, (b z).1⟩ (fun h' k1 k2 k3 k4 => ?_)⟩))))) (fun z => absurd c2 z)) (fun z => absurd (by omega) z))
            have hp : 0 ≤ p ∧ p < m 1 2 := ⟨z, (b z).1⟩
            have ep := (b z).2
            have A := tst_rem (f := fun t => cvT (h 5 t)) (g := fun t => cvT (h' 5 t)) hp ijc (fun t a b => by
              show cvT (h' 5 t) = _
              rw [k4]
              by_cases z : p ≤ t
              · rw [if_pos ⟨z, b⟩, if_pos z]
              · rw [if_neg (by omega), if_neg z])
            have B := tst_rem (f := fun t => m 1 (137 + t)) (g := fun t => prow m (trm (m 1) (m 1 2) p') 1 (137 + t)) ⟨hp0, hp1⟩ w8 (fun t a b => by
              show trm (m 1) (m 1 2) p' (137 + t) = _
              unfold trm
              rw [if_neg (by omega)]
              by_cases z : p' ≤ t
              · rw [if_pos (by omega), if_pos z, show 137 + t + 1 = 137 + (t + 1) by omega]
              · rw [if_neg (by omega), if_neg z])
            refine ⟨k3, turn_rel (n := m 1 2 - 1) hR k1 (prow_kp _ _) k2 k3 (fun j a b => ?_) ?_ (by omega) (fun t a b => ?_) (fun t u a b c => ?_) (fun a => ?_) B.2, kp_mono k1 (by decide)⟩
            · show trm (m 1) (m 1 2) p' j = _
              unfold trm
              rw [if_neg a, if_neg (by omega)]
            · show trm (m 1) (m 1 2) p' 2 = _
              unfold trm
              rw [if_pos rfl]
            · rw [k4]
              split
              · exact q6 _ (by omega) (by omega)
              · exact q6 _ (by omega) (by omega)
            · rw [k4, k4]
              by_cases z : p ≤ t
              · rw [if_pos (by omega), if_pos (by omega)]; exact q7 _ _ (by omega) (by omega) (by omega)
              · rw [if_neg (by omega)]
                split
                · exact q7 _ _ (by omega) (by omega) (by omega)
                · exact q7 _ _ (by omega) (by omega) (by omega)
            · rw [A.1 a, B.1 a, hE a]
              show _ ∧ a ≠ cvT (h 5 p) ↔ _ ∧ a ≠ m 1 (137 + p')
              rw [ep, ep', ecv]
        · by_cases c5 : s 2 = 10
          · refine SD_ref i1 (-4) (inI_s (by omega) (by omega)) (by omega) (fun m hI hm => ?_)
            have eq5 := eq5 m
            subst hm
            refine ⟨?_, fun h hR => ?_⟩
            · refine sg_X8_turn_0 (by omega) (M_isSlot (by omega) hk (by omega) (fun _ => ⟨hr, M_isIn (inL_I hr) (by unfold inL; omega) (by unfold inL; omega) (fun _ => ⟨inI_s (by omega) (by omega), fun _ => M_turnL rfl w3 (inI_s (by omega) (by omega)) hrm (fun p a b e => absurd ⟨p, a, b, e⟩ c4) (fun _ _ => ⟨rfl, rfl⟩) (by omega), by omega⟩) (fun z => absurd (by omega) z)⟩) (fun z => absurd c1 z))
            · obtain ⟨-, r1, r2, -⟩ := id hR
              obtain ⟨q1, q2, q3, q4, -, q6, q7, q8⟩ := id r1
              have e4 := r2.2.2.1
              have hr5 : ∀ t, 0 ≤ t → t < m 1 2 → 0 ≤ h 5 t ∧ h 5 t < 1600 := fun t a b => ⟨(q6 t a b).1, (q6 t a b).2.1⟩
              exact sg_X7_turn_0 (by omega) (C_isSlot hk (by omega) (fun _ => C_isRow hr (fun _ => C_anyDone (by omega) (fun z => by omega) (fun _ => sg_X3_turnAt_0 (by omega) (C_turnNumber (by omega) c2 (C_placeOfTurn q3 w3 hr5 (inI_s (by omega) (by omega)) (fun p ip a b => ⟨ip, fun z => ⟨inI_s (by omega) (by omega), by omega, fun _ => ⟨rfl, rfl⟩⟩, fun z => absurd ((eq5 h rfl hR).mp ⟨p, z, (b z).1, (b z).2⟩) c4⟩))))) (fun z => absurd c2 z)) (fun z => absurd (by omega) z))
          · have hWF : WF (up1 (up1 s (137 + s 2) (100 * k + r)) 2 (s 2 + 1)) := by
              have T := tst_add (f := fun t => s (137 + t)) (g := fun t => up1 (up1 s (137 + s 2) (100 * k + r)) 2 (s 2 + 1) (137 + t)) (n := s 2) (c := 100 * k + r) (by omega) (by show up1 (up1 s (137 + s 2) (100 * k + r)) 2 (s 2 + 1) (137 + s 2) = _; rw [up1_ne (by omega), up1_eq]) (fun t a b => by show up1 (up1 s (137 + s 2) (100 * k + r)) 2 (s 2 + 1) (137 + t) = _; rw [up1_ne (by omega), up1_ne (by omega)])
              refine WF_turn i1 (fun j a b => by rw [up1_ne a, up1_ne (by omega)]) (by rw [up1_eq]; omega) (fun t a b => ?_) (by rw [up1_eq]; exact T.2 w8 c4)
              rw [up1_eq] at b
              by_cases z : t = s 2
              · rw [z, up1_ne (by omega), up1_eq]; omega
              · rw [up1_ne (by omega), up1_ne (by omega)]; exact w7 t a (by omega)
            refine ⟨s 2 + 1, up1 (up1 s (137 + s 2) (100 * k + r)) 2 (s 2 + 1), inI_s (by omega) (by omega), hWF, fun z => by omega, fun m hI hm => ?_⟩
            have eq5 := eq5 m
            subst hm
            rw [← prow_xu, ← xu_prow]
            refine ⟨?_, fun h hR => ?_⟩
            · refine sg_X8_turn_0 (by omega) (M_isSlot (by omega) hk (by omega) (fun _ => ⟨hr, M_isIn (inL_I hr) (by unfold inL; omega) (by unfold inL; omega) (fun _ => ⟨inI_s (by omega) (by omega), fun _ => M_turnL rfl w3 (inI_s (by omega) (by omega)) hrm (fun p a b e => absurd ⟨p, a, b, e⟩ c4) (fun _ z => absurd z c5) (fun _ _ => ⟨rfl, rfl⟩), by omega⟩) (fun z => absurd (by omega) z)⟩) (fun z => absurd c1 z))
            · obtain ⟨-, r1, r2, -⟩ := id hR
              obtain ⟨q1, q2, q3, q4, -, q6, q7, q8⟩ := id r1
              have e4 := r2.2.2.1
              have hE := fun a => r1.tst i1.1 a
              have hr5 : ∀ t, 0 ≤ t → t < m 1 2 → 0 ≤ h 5 t ∧ h 5 t < 1600 := fun t a b => ⟨(q6 t a b).1, (q6 t a b).2.1⟩
              have ij : inj1 (h 5) (m 1 2) := fun t u a b c d e => by
                rcases (show t < u ∨ t = u ∨ u < t by omega) with z | z | z
                · have := q7 t u a z d; omega
                · exact z
                · have := q7 u t c z b; omega
              refine sg_X7_turn_0 (by omega) (C_isSlot hk (by omega) (fun _ => C_isRow hr (fun _ => C_anyDone (by omega) (fun z => by omega) (fun _ => sg_X3_turnAt_0 (by omega) (C_turnNumber (by omega) c2 (C_placeOfTurn q3 w3 hr5 (inI_s (by omega) (by omega)) (fun p ip a b => ⟨ip, fun z => ⟨inI_s (by omega) (by omega), fun _ => ⟨by omega, ?_⟩, by omega⟩, fun z => absurd ((eq5 h rfl hR).mp ⟨p, z, (b z).1, (b z).2⟩) c4⟩))))) (fun z => absurd c2 z)) (fun z => absurd (by omega) z))
              rw [q3]
              have e5 : xu (xu h 5 (m 1 2) (r * 16 + k)) 1 6 (m 1 2 + 1) 5 = up1 (h 5) (m 1 2) (r * 16 + k) := by rw [xu_oth (by decide), xu_row]
              have T5 := tst_add (f := h 5) (g := up1 (h 5) (m 1 2) (r * 16 + k)) (n := m 1 2) (by omega) up1_eq (fun t a b => up1_ne (by omega))
              refine C_sortTurns (n := m 1 2 + 1) xu_eq (by omega) (fun t a b => ?_) (by rw [e5]; exact T5.2 ij (fun z => c4 ((eq5 h rfl hR).mp z))) (fun h' g1 g2 g3 => ?_)
              · rw [e5]
                by_cases y : t = m 1 2
                · rw [y, up1_eq]; omega
                · rw [up1_ne y]; exact hr5 t a (by omega)
              · have e16 : h' 1 6 = m 1 2 + 1 := by rw [g1 1 (by decide), xu_eq]
                have k1 : kp [1, 5] h h' := kp_tr (kp_tr (kp_xu (by decide)) (kp_xu (by decide))) (kp_mono g1 (by decide))
                have k5 : ∀ a, tst (h' 5) (m 1 2 + 1) a ↔ tst (h 5) (m 1 2) a ∨ a = r * 16 + k := fun a => by rw [g3 a, e5, T5.1 a]
                have T := tst_add (f := fun t => m 1 (137 + t)) (g := fun t => xu (xu m 1 (137 + m 1 2) (100 * k + r)) 1 2 (m 1 2 + 1) 1 (137 + t)) (n := m 1 2) (c := 100 * k + r) (by omega) (by show xu (xu m 1 (137 + m 1 2) (100 * k + r)) 1 2 (m 1 2 + 1) 1 (137 + m 1 2) = _; rw [xu_ne (by omega), xu_eq]) (fun t a b => by show xu (xu m 1 (137 + m 1 2) (100 * k + r)) 1 2 (m 1 2 + 1) 1 (137 + t) = _; rw [xu_ne (by omega), xu_ne (by omega)])
                refine ⟨e16, turn_rel hR k1 (kp_tr (kp_xu (by decide)) (kp_xu (by decide))) (fun i hi => by rw [g1 1 (by decide), xu_ne hi, xu_cn (by decide)]) e16 (fun j a b => by rw [xu_ne a, xu_ne (by omega)]) xu_eq (by omega) (fun t a b => ?_) g2 (fun a => ?_) (T.2 w8 c4), kp_mono k1 (by decide)⟩
                · rcases (k5 (h' 5 t)).mp ⟨t, a, b, rfl⟩ with ⟨u, u0, u1, e⟩ | z
                  · rw [← e]; exact q6 u u0 u1
                  · rw [z]; omega
                · rw [tst_map (f := h' 5) (g := cvT), T.1 a, ← hE a, tst_map (f := h 5) (g := cvT)]
                  constructor
                  · intro ⟨b, hb, e⟩
                    rcases (k5 b).mp hb with z | z
                    · exact Or.inl ⟨b, z, e⟩
                    · rw [z, ecv] at e; exact Or.inr e.symm
                  · intro z
                    rcases z with ⟨b, hb, e⟩ | z
                    · exact ⟨b, (k5 b).mpr (Or.inl hb), e⟩
                    · exact ⟨_, (k5 _).mpr (Or.inr rfl), by rw [ecv, z]⟩
      · refine SD_ref i1 (-3) (inI_s (by omega) (by omega)) (by omega) (fun m hI hm => ?_)
        subst hm
        refine ⟨?_, fun h hR => ?_⟩
        · exact sg_X8_turn_0 (by omega) (M_isSlot (by omega) hk (by omega) (fun _ => ⟨hr, M_isIn (inL_I hr) (by unfold inL; omega) (by unfold inL; omega) (fun _ => ⟨inI_s (by omega) (by omega), by omega, fun _ => ⟨rfl, rfl⟩⟩) (fun z => absurd (by omega) z)⟩) (fun z => absurd c1 z))
        · have e0 := hR.2.1.1
          have e4 := hR.2.2.1.2.2.1
          exact sg_X7_turn_0 (by omega) (C_isSlot hk (by omega) (fun _ => C_isRow hr (fun _ => C_anyDone (by omega) (fun z => ⟨rfl, rfl⟩) (fun _ => by omega)) (fun z => absurd c2 z)) (fun z => absurd (by omega) z))
    · refine SD_ref i1 (-2) (inI_s (by omega) (by omega)) (by omega) (fun m hI hm => ?_)
      subst hm
      refine ⟨?_, fun h hR => ?_⟩
      · exact sg_X8_turn_0 (by omega) (M_isSlot (by omega) hk (by omega) (fun _ => ⟨hr, M_isIn (inL_I hr) (by unfold inL; omega) (by unfold inL; omega) (fun z => absurd (by omega) c2) (fun _ => ⟨rfl, rfl⟩)⟩) (fun z => absurd c1 z))
      · have e0 := hR.2.1.1
        exact sg_X7_turn_0 (by omega) (C_isSlot hk (by omega) (fun _ => C_isRow hr (fun z => absurd z c2) (fun _ => ⟨rfl, rfl⟩)) (fun z => absurd (by omega) z))
  · refine SD_ref i1 (-1) (inI_s (by omega) (by omega)) (by omega) (fun m hI hm => ?_)
    subst hm
    refine ⟨?_, fun h hR => ?_⟩
    · exact sg_X8_turn_0 (by omega) (M_isSlot (by omega) hk (by omega) (fun z => absurd z c1) (fun z => ⟨rfl, rfl⟩))
    · have e0 := hR.2.1.1
      exact sg_X7_turn_0 (by omega) (C_isSlot hk (by omega) (fun z => absurd (by omega) c1) (fun z => ⟨rfl, rfl⟩))
