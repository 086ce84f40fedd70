/-! API methods that only ask (1) -/
def keepC (h h' : xH) : Prop := kp [21, 22, 23, 24, 25, 26, 27, 28, 29, 30, 31, 32, 33, 34, 35, 36, 37, 38, 39, 40, 41, 42, 43, 44, 46, 47, 48, 49] h h' ∧ h' 44 1 = h 44 1
def keepM (m m' : xH) : Prop := kp [0, 3, 4, 5, 6, 7, 8, 9, 10, 11, 12, 13, 16, 18] m m' ∧ m' 0 3 = m 0 3 ∧ m' 0 22 = m 0 22 ∧ m' 0 23 = m 0 23
theorem keepC_rf (h : xH) : keepC h h := ⟨kp_rf _ _, rfl⟩
theorem keepM_rf (h : xH) : keepM h h := ⟨kp_rf _ _, rfl, rfl, rfl⟩
theorem keepC_need {h h' : xH} (k : kp [27, 28, 29, 30, 31] h h') : keepC h h' := ⟨kp_mono k (by decide), by rw [k 44 (by decide)]⟩
theorem keepM_need {h h' : xH} (k : kp [4, 5, 7] h h') : keepM h h' := ⟨kp_mono k (by decide), by rw [k 0 (by decide)], by rw [k 0 (by decide)], by rw [k 0 (by decide)]⟩
theorem InvM.keep {m m' : xH} (hI : InvM m) (hM : keepM m m') : InvM m' := by
  obtain ⟨k, e3, e22, e23⟩ := hM
  unfold InvM
  rw [e3, e22, e23, k 1 (by decide), k 2 (by decide), k 14 (by decide), k 15 (by decide), k 17 (by decide), k 19 (by decide), k 20 (by decide)]
  exact hI
theorem Rel.keep {h m h' m' : xH} (hR : Rel h m) (hC : keepC h h') (hM : keepM m m') : Rel h' m' := by
  refine ⟨hR.1.keep hM, ?_⟩
  obtain ⟨k, e3, e22, e23⟩ := hM
  obtain ⟨c, e44⟩ := hC
  obtain ⟨r1, r2, r3, r4, r5, r6, r7⟩ := hR.2
  unfold RelC
  rw [e3, e22, e23, e44, k 1 (by decide), k 2 (by decide), k 14 (by decide), k 15 (by decide), k 17 (by decide), k 19 (by decide), c 0 (by decide), c 45 (by decide), c 51 (by decide), c 52 (by decide), c 53 (by decide)]
  refine ⟨r1.congr (c 1 (by decide)) (c 2 (by decide)) (c 3 (by decide)) (c 4 (by decide)) (c 5 (by decide)), r2.congr (c 6 (by decide)) (c 7 (by decide)) (c 8 (by decide)) (c 9 (by decide)) (c 10 (by decide)), ⟨r3.1, fun z => ?_⟩, r4, r5, r6, r7.congr (c 54 (by decide))⟩
  obtain ⟨a, b⟩ := r3.2 z
  exact ⟨a.congr (c 11 (by decide)) (c 12 (by decide)) (c 13 (by decide)) (c 14 (by decide)) (c 15 (by decide)), b.congr (c 16 (by decide)) (c 17 (by decide)) (c 18 (by decide)) (c 19 (by decide)) (c 20 (by decide))⟩
/-- a question: the same answer, nothing that lasts is changed -/
def QId (d : Nat) (mC mM : xM) (as : List xV) (h m : xH) : Prop := ∃ r : Int, inI r ∧ cI wdC d mC (.inr (.inr 0) :: as) h (fun n h' => n = r ∧ keepC h h') ∧ cI wdM d mM (.inr (.inr 0) :: as) m (fun n m' => n = r ∧ keepM m m')
def QI (mC mM : xM) (as : List xV) (h m : xH) : Prop := QId 30 mC mM as h m
def QL (mC mM : xM) (as : List xV) (h m : xH) : Prop := ∃ r : Int, inL r ∧ cL wdC 30 mC (.inr (.inr 0) :: as) h (fun n h' => n = r ∧ keepC h h') ∧ cL wdM 30 mM (.inr (.inr 0) :: as) m (fun n m' => n = r ∧ keepM m m')
theorem AI_of {mC mM : xM} {as : List xV} (H : ∀ h m, Rel h m → QI mC mM as h m) : AI mC mM as := by
  intro h m hR
  obtain ⟨r, h1, h2, h3⟩ := H h m hR
  exact ⟨r, keepC h, keepM m, h1, h2, h3, fun h' m' a b => hR.keep a b⟩
theorem AL_of {mC mM : xM} {as : List xV} (H : ∀ h m, Rel h m → QL mC mM as h m) : AL mC mM as := by
  intro h m hR
  obtain ⟨r, h1, h2, h3⟩ := H h m hR
  exact ⟨r, keepC h, keepM m, h1, h2, h3, fun h' m' a b => hR.keep a b⟩
theorem Q_filled (k r : Int) (hk : inI k) (hr : inI r) {h m : xH} (hR : Rel h m) : QI mX7_filled mX8_filled [.inl k, .inl r] h m := by
  obtain ⟨⟨hW, -⟩, hP, -⟩ := id hR
  have w1 := hW.1.1
  have e0 := hP.1
  by_cases c1 : 0 ≤ k ∧ k < m 1 0
  · by_cases c2 : 0 ≤ r ∧ r ≤ 99
    · refine ⟨b2i (isF (m 1) k r), b2i_in _, ?_, ?_⟩
      · exact sg_X7_filled_0 (by omega) (C_isSlot hk (by omega) (fun _ => C_isRow hr (fun _ => C_isFilled (by omega) hW.1 hP (by omega) hr (fun b => ⟨by rw [b]; rfl, keepC_rf h⟩) (fun b => ⟨by rw [b]; rfl, keepC_rf h⟩)) (fun z => absurd c2 z)) (fun z => absurd (by omega) z))
      · exact sg_X8_filled_0 (by omega) (M_isSlot (by omega) hk (by omega) (fun _ => ⟨hr, M_isIn (inL_I hr) (by unfold inL; omega) (by unfold inL; omega) (fun _ => M_isFilled hW.1 (by omega) hr (fun b => ⟨by rw [b]; rfl, keepM_rf m⟩) (fun b => ⟨by rw [b]; rfl, keepM_rf m⟩)) (fun z => absurd c2 z)⟩) (fun z => absurd c1 z))
    · refine ⟨-2, by unfold inI; omega, ?_, ?_⟩
      · exact sg_X7_filled_0 (by omega) (C_isSlot hk (by omega) (fun _ => C_isRow hr (fun z => absurd z c2) (fun z => ⟨rfl, keepC_rf h⟩)) (fun z => absurd (by omega) z))
      · exact sg_X8_filled_0 (by omega) (M_isSlot (by omega) hk (by omega) (fun _ => ⟨hr, M_isIn (inL_I hr) (by unfold inL; omega) (by unfold inL; omega) (fun z => absurd z c2) (fun z => ⟨rfl, keepM_rf m⟩)⟩) (fun z => absurd c1 z))
  · refine ⟨-1, by unfold inI; omega, ?_, ?_⟩
    · exact sg_X7_filled_0 (by omega) (C_isSlot hk (by omega) (fun z => absurd (by omega) c1) (fun _ => ⟨rfl, keepC_rf h⟩))
    · exact sg_X8_filled_0 (by omega) (M_isSlot (by omega) hk (by omega) (fun z => absurd z c1) (fun _ => ⟨rfl, keepM_rf m⟩))
theorem C_isDone {d : Nat} {p : Int} {h : xH} {s : Int → Int} {T F : xH → Prop} (hd : 2 ≤ d) (hW : WF s) (hB : RBen h 6 7 8 9 10 s) (hp : 0 ≤ p ∧ p < 30) (ht : s (95 + p) = 1 → T h) (hf : s (95 + p) = 0 → F h) : cB wdC d mX0_isDone [.inr (.inr 6), .inl p] h T F := by
  obtain ⟨b1, ⟨D, e, hl, hb⟩, b3⟩ := hB
  have h1 := hb p.toNat (by omega)
  rw [show ((p.toNat : Nat) : Int) = p by omega] at h1
  refine sg_X0_isDone_0 (by omega) ?_
  rw [e]
  refine C_hasPinI (by omega) (by omega) (by omega) ⟨bti_01 _ _, ?_⟩
  unfold bti at h1 ⊢
  cases hD : D.testBit p.toNat with
  | false => rw [hD] at h1; exact Or.inr ⟨rfl, hf h1⟩
  | true => rw [hD] at h1; exact Or.inl ⟨rfl, ht h1⟩
theorem C_depthOf {d : Nat} {p : Int} {h : xH} {s : Int → Int} {Q : Int → xH → Prop} (hd : 3 ≤ d) (hW : WFp s) (hR : RPat h 1 2 3 4 5 s) (hp : 0 ≤ p ∧ p < s 1) (hq : ∀ h', kp [27, 28, 29, 30, 31] h h' → (∀ q, 0 ≤ q → q < s 1 → NeedAt s (h' 27) (h' 28) (h' 29) q) → Q (h' 29 p) h') : cI wdC d mX7_depthOf [.inr (.inr 0), .inl p] h Q := by
  have w2 := hW.2.1
  exact sg_X7_depthOf_0 (by omega) (C_study (by omega) hW hR (fun g k n => ⟨by omega, hq g k n⟩))
/-- there are rows that say what needs what -/
theorem need_ex {s : Int → Int} (hW : WFp s) : ∃ f4 f5 f7 : Int → Int, ∀ q, 0 ≤ q → q < s 1 → NeedAt s f4 f5 f7 q := by
  obtain ⟨w1, w2, w3, w4, w5, w6, w7, w8⟩ := id hW
  have key : ∀ r : Nat, ∃ f4 f5 f7 : Int → Int, ∀ q, 0 ≤ q → q < s 1 → s (5 + q) < r → NeedAt s f4 f5 f7 q := by
    intro r
    induction r with
    | zero => exact ⟨fun _ => 0, fun _ => 0, fun _ => 0, fun q a b c => by have := w4 q a b; omega⟩
    | succ r ih =>
      obtain ⟨f4, f5, f7, hf⟩ := ih
      obtain ⟨g4, e4⟩ : ∃ g : Int → Int, g = fun q => if s (5 + q) = r then addN (addN 0 (ah s q (s (35 + q)))) (ah s q (s (35 + q) + 1)) else f4 q := ⟨_, rfl⟩
      obtain ⟨g5, e5⟩ : ∃ g : Int → Int, g = fun q => if s (5 + q) = r then addA f5 (addA f5 0 (ah s q (s (35 + q)))) (ah s q (s (35 + q) + 1)) else f5 q := ⟨_, rfl⟩
      obtain ⟨g7, e7⟩ : ∃ g : Int → Int, g = fun q => if s (5 + q) = r then addD f7 (addD f7 0 (ah s q (s (35 + q)))) (ah s q (s (35 + q) + 1)) else f7 q := ⟨_, rfl⟩
      have p4 : ∀ q, s (5 + q) = r → g4 q = addN (addN 0 (ah s q (s (35 + q)))) (ah s q (s (35 + q) + 1)) := fun q z => by rw [e4]; exact if_pos z
      have p5 : ∀ q, s (5 + q) = r → g5 q = addA f5 (addA f5 0 (ah s q (s (35 + q)))) (ah s q (s (35 + q) + 1)) := fun q z => by rw [e5]; exact if_pos z
      have p7 : ∀ q, s (5 + q) = r → g7 q = addD f7 (addD f7 0 (ah s q (s (35 + q)))) (ah s q (s (35 + q) + 1)) := fun q z => by rw [e7]; exact if_pos z
      have n4 : ∀ q, ¬ s (5 + q) = r → g4 q = f4 q := fun q z => by rw [e4]; exact if_neg z
      have n5 : ∀ q, ¬ s (5 + q) = r → g5 q = f5 q := fun q z => by rw [e5]; exact if_neg z
      have n7 : ∀ q, ¬ s (5 + q) = r → g7 q = f7 q := fun q z => by rw [e7]; exact if_neg z
      refine ⟨g4, g5, g7, fun q a b c => ?_⟩
      have a1 := ah_ok (s := s) (by omega) q (s (35 + q))
      have a2 := ah_ok (s := s) (by omega) q (s (35 + q) + 1)
      by_cases e : s (5 + q) = r
      · have l1 : 0 ≤ ah s q (s (35 + q)) → ¬ s (5 + ah s q (s (35 + q))) = r := fun z => by have := (a1.2.1 z).1; omega
        have l2 : 0 ≤ ah s q (s (35 + q) + 1) → ¬ s (5 + ah s q (s (35 + q) + 1)) = r := fun z => by have := (a2.2.1 z).1; omega
        have d1 : 0 ≤ ah s q (s (35 + q)) → 0 ≤ f7 (ah s q (s (35 + q))) ∧ f7 (ah s q (s (35 + q))) + 1 ≤ s (5 + q) := fun z => by
          have h1 := (a1.2.1 z).1
          have := (hf _ z a1.1.2 (by omega)).2.2.2; omega
        have d2 : 0 ≤ ah s q (s (35 + q) + 1) → 0 ≤ f7 (ah s q (s (35 + q) + 1)) ∧ f7 (ah s q (s (35 + q) + 1)) + 1 ≤ s (5 + q) := fun z => by
          have h1 := (a2.2.1 z).1
          have := (hf _ z a2.1.2 (by omega)).2.2.2; omega
        refine ⟨p4 q e, ?_, ?_, ?_⟩
        · rw [p5 q e, addA_congr (f := g5) (g := f5) (fun z => n5 _ (l2 z)), addA_congr (f := g5) (g := f5) (fun z => n5 _ (l1 z))]
        · rw [p7 q e, addD_congr (f := g7) (g := f7) (fun z => n7 _ (l2 z)), addD_congr (f := g7) (g := f7) (fun z => n7 _ (l1 z))]
        · rw [p7 q e]
          have := w4 q a b
          unfold addD
          split
          · split
            · omega
            · have := d1 (by omega); omega
          · have := d2 (by omega)
            split
            · omega
            · have := d1 (by omega); omega
      · exact (hf q a b (by omega)).congr (by omega) ⟨n4 q e, n5 q e, n7 q e⟩ (fun y y0 y1 y2 => ⟨n5 y (by omega), n7 y (by omega)⟩)
  obtain ⟨f4, f5, f7, hf⟩ := key 100
  exact ⟨f4, f5, f7, fun q a b => hf q a b (by have := w4 q a b; omega)⟩
theorem Q_of (p k : Int) (hp : inI p) (hk : inI k) {h m : xH} (hR : Rel h m) : QI mX7_of mX8_of [.inl p, .inl k] h m := by
  obtain ⟨⟨hW, -⟩, hP, hB, -⟩ := id hR
  obtain ⟨w1, w2, w3, w4, w5, w6, w7, w8⟩ := id hW.1
  have v3 := hW.2.2.2.1
  have e1 := hP.2.1
  obtain ⟨f4, f5, f7, hf⟩ := need_ex hW.1
  by_cases c1 : 0 ≤ p ∧ p < m 1 1
  · have a1 := w4 p c1.1 c1.2
    have b1 := hP.2.2.2.1 p c1.1 c1.2
    have d1 := v3 p c1.1 (by omega)
    have g7 := (hf p c1.1 c1.2).2.2.2
    have lf : ∀ r : Int, (k = 0 → r = m 1 (5 + p)) → (k = 1 → r = m 1 (35 + p)) → (k = 2 → r = m 1 (65 + p)) → (k = 3 → r = m 1 (95 + p)) → (k = 4 → r = f7 p) → (k = 5 → r = b2i (lks (m 1) p)) → ((k < 0 ∨ 5 < k) → r = -1) → inI r → QI mX7_of mX8_of [.inl p, .inl k] h m := by
      intro r r0 r1 r2 r3 r4 r5 r6 hr
      refine ⟨r, hr, ?_, ?_⟩
      · refine sg_X7_of_0 (by omega) (C_isPin hp (by omega) (fun _ => ⟨hk, fun z => ⟨by omega, by rw [r0 z]; exact b1.1, keepC_rf h⟩, fun z => ⟨by omega, by rw [r1 z]; exact b1.2.1, keepC_rf h⟩, fun z => ⟨by omega, by rw [r2 z]; exact b1.2.2, keepC_rf h⟩, fun z => C_isDone (by omega) hW hB (by omega) (fun q => ⟨by rw [r3 z]; omega, keepC_rf h⟩) (fun q => ⟨by rw [r3 z]; omega, keepC_rf h⟩), fun z => C_depthOf (by omega) hW.1 hP c1 (fun h' kk nn => ⟨?_, keepC_need kk⟩), fun z => C_lacksPair (by omega) hW.1 hP c1 (fun q => ⟨by rw [r5 z, q]; rfl, keepC_rf h⟩) (fun q => ⟨by rw [r5 z, q]; rfl, keepC_rf h⟩), fun z => ⟨(r6 z).symm, keepC_rf h⟩⟩) (fun z => absurd (by omega) z))
        rw [r4 z]; exact (need_uniq hW.1 nn hf p c1.1 c1.2).2.2
      · refine sg_X8_of_0 (by omega) (M_isPin (by omega) hp (by omega) (fun _ => M_findsAll (by omega) hW.1 (fun m' km nm => ?_)) (fun z => absurd c1 z))
        have em : m' 1 = m 1 := km 1 (by decide)
        rw [em]
        refine ⟨hk, fun z => ⟨by omega, (r0 z).symm, keepM_need km⟩, fun z => ⟨by omega, (r1 z).symm, keepM_need km⟩, fun z => ⟨by omega, (r2 z).symm, keepM_need km⟩, fun z => ⟨by omega, (r3 z).symm, keepM_need km⟩, fun z => ⟨by omega, ?_, keepM_need km⟩, fun z => M_lacks (by omega) (by rw [em]; exact hW.1) (by rw [em]; exact c1) (fun q => ⟨?_, keepM_need km⟩) (fun q => ⟨?_, keepM_need km⟩), fun z => ⟨(r6 z).symm, keepM_need km⟩⟩
        · rw [r4 z]; exact (need_uniq hW.1 nm hf p c1.1 c1.2).2.2
        · rw [em] at q; rw [r5 z, q]; rfl
        · rw [em] at q; rw [r5 z, q]; rfl
    rcases (show k = 0 ∨ k = 1 ∨ k = 2 ∨ k = 3 ∨ k = 4 ∨ k = 5 ∨ (k < 0 ∨ 5 < k) by omega) with z | z | z | z | z | z | z
    · exact lf (m 1 (5 + p)) (fun _ => rfl) (by omega) (by omega) (by omega) (by omega) (by omega) (by omega) (inI_s (by omega) (by omega))
    · exact lf (m 1 (35 + p)) (by omega) (fun _ => rfl) (by omega) (by omega) (by omega) (by omega) (by omega) (inI_s (by omega) (by omega))
    · exact lf (m 1 (65 + p)) (by omega) (by omega) (fun _ => rfl) (by omega) (by omega) (by omega) (by omega) (inI_s (by omega) (by omega))
    · exact lf (m 1 (95 + p)) (by omega) (by omega) (by omega) (fun _ => rfl) (by omega) (by omega) (by omega) (inI_s (by omega) (by omega))
    · exact lf (f7 p) (by omega) (by omega) (by omega) (by omega) (fun _ => rfl) (by omega) (by omega) (inI_s (by omega) (by omega))
    · exact lf (b2i (lks (m 1) p)) (by omega) (by omega) (by omega) (by omega) (by omega) (fun _ => rfl) (by omega) (b2i_in _)
    · exact lf (-1) (by omega) (by omega) (by omega) (by omega) (by omega) (by omega) (fun _ => rfl) (inI_s (by omega) (by omega))
  · refine ⟨-1, inI_s (by omega) (by omega), ?_, ?_⟩
    · exact sg_X7_of_0 (by omega) (C_isPin hp (by omega) (fun z => absurd (by omega) c1) (fun _ => ⟨rfl, keepC_rf h⟩))
    · exact sg_X8_of_0 (by omega) (M_isPin (by omega) hp (by omega) (fun z => absurd z c1) (fun _ => ⟨rfl, keepM_rf m⟩))
