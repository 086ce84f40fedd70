/-! API draft -/
theorem Rel.paperU {h m h' m' : xH} (hR : Rel h m) (kC : kp [0, 53] h h') (kM : kp [0, 15] m m') (e4 : h' 0 4 = h 0 4) (e3 : m' 0 3 = m 0 3) (e22 : m' 0 22 = m 0 22) (e23 : h' 0 12 = m' 0 23) (b23 : 0 ≤ m' 0 23 ∧ m' 0 23 ≤ 12) (hs : ∀ i, 0 ≤ i → i < m' 0 23 → h' 53 i = m' 15 i ∧ 0 ≤ m' 15 i ∧ m' 15 i ≤ 127) : Rel h' m' := by
  obtain ⟨⟨i1, i2, i3, i4, i5, i6, i7, i8, i9⟩, r1, r2, r3, r4, r5, r6, r7⟩ := hR
  refine ⟨?_, ?_⟩
  · unfold InvM
    rw [e3, e22, kM 1 (by decide), kM 2 (by decide), kM 14 (by decide), kM 17 (by decide), kM 19 (by decide), kM 20 (by decide)]
    exact ⟨i1, i2, i3, i4, b23, fun i a b => (hs i a b).2, i7, i8, i9⟩
  · unfold RelC
    rw [e3, e22, e4, kM 1 (by decide), kM 2 (by decide), kM 14 (by decide), kM 17 (by decide), kM 19 (by decide), kC 44 (by decide), kC 45 (by decide), kC 51 (by decide), kC 52 (by decide)]
    refine ⟨r1.congr (kC 1 (by decide)) (kC 2 (by decide)) (kC 3 (by decide)) (kC 4 (by decide)) (kC 5 (by decide)), r2.congr (kC 6 (by decide)) (kC 7 (by decide)) (kC 8 (by decide)) (kC 9 (by decide)) (kC 10 (by decide)), ⟨r3.1, fun z => ?_⟩, r4, ⟨e23, fun i a b => (hs i a b).1⟩, r6, r7.congr (kC 54 (by decide))⟩
    obtain ⟨a, b⟩ := r3.2 z
    exact ⟨a.congr (kC 11 (by decide)) (kC 12 (by decide)) (kC 13 (by decide)) (kC 14 (by decide)) (kC 15 (by decide)), b.congr (kC 16 (by decide)) (kC 17 (by decide)) (kC 18 (by decide)) (kC 19 (by decide)) (kC 20 (by decide))⟩
/-- the sign of a slot, of the first n pins -/
def drS (s : Int → Int) (r k : Int) : Nat → Int
  | 0 => 124
  | n + 1 => if s (5 + n) = r ∧ s (35 + n) + 1 = k then 41 else if s (5 + n) = r ∧ s (35 + n) = k then 40 else drS s r k n
def drF (s : Int → Int) (r k : Int) : Int := if isF s k r then drS s r k (s 1).toNat else 46
theorem drS_in (s : Int → Int) (r k : Int) : ∀ n, 0 ≤ drS s r k n ∧ drS s r k n ≤ 127 := by
  intro n
  induction n with
  | zero => exact ⟨show (0 : Int) ≤ 124 by decide, show (124 : Int) ≤ 127 by decide⟩
  | succ n ih =>
    unfold drS
    split
    · omega
    · split
      · omega
      · exact ih
theorem drF_in (s : Int → Int) (r k : Int) : 0 ≤ drF s r k ∧ drF s r k ≤ 127 := by
  unfold drF
  split
  · exact drS_in s r k _
  · omega
theorem C_draftL {d : Nat} {r : Int} {h : xH} {s : Int → Int} {Q : Int → xH → Prop} (hd : 3 ≤ d) (hW : WFp s) (hR : RPat h 1 2 3 4 5 s) (hr : inI r) (hq : ∀ h', kp [53] h h' → (∀ k, 0 ≤ k → k < s 0 → h' 53 k = drF s r k) → Q (s 0) (xu h' 0 12 (s 0))) : gI wdC d mX7_draft 12 [some (.inr (.inr 0)), some (.inl r), some (.inl 0)] h Q := by
  obtain ⟨w1, w2, w3, w4, w5, w6, w7, w8⟩ := id hW
  obtain ⟨q1, q2, q3, q4, -, q6, q7, q8⟩ := id hR
  have hR' : ∀ h1, kp [53] h h1 → RPat h1 1 2 3 4 5 s := fun h1 k => hR.congr (k 1 (by decide)) (k 2 (by decide)) (k 3 (by decide)) (k 4 (by decide)) (k 5 (by decide))
  have l3 : ∀ t : Int, t ≤ s 0 → 0 ≤ t → ∀ h1 : xH, kp [53] h h1 → (∀ k, 0 ≤ k → k < s 0 → h1 53 k = if k < t then drF s r k else drS s r k (s 1).toNat) → gI wdC d mX7_draft 84 [some (.inr (.inr 0)), some (.inl r), some (.inl t)] h1 Q := by
    refine dn ?_ ?_
    · intro _ h1 k hj
      have e0 : h1 1 0 = s 0 := by rw [k 1 (by decide)]; exact q1
      refine sg_X7_draft_84 (by omega) ?_
      rw [e0]
      exact ⟨⟨inI_s (by omega) (by omega), inI_s (by omega) (by omega)⟩, fun _ => hq h1 k (fun k a b => by rw [hj k a b, if_pos b]), fun z => absurd z (by omega)⟩
    · intro t ht ih t0 h1 k hj
      have e0 : h1 1 0 = s 0 := by rw [k 1 (by decide)]; exact q1
      have nt := hj t t0 ht
      rw [if_neg (by omega)] at nt
      refine sg_X7_draft_84 (by omega) ?_
      rw [e0]
      refine ⟨⟨inI_s (by omega) (by omega), inI_s (by omega) (by omega)⟩, fun z => absurd z (by omega), fun _ => C_isFilled (by omega) hW (hR' h1 k) ⟨t0, ht⟩ hr (fun b => ih (by omega) h1 k (fun j a c => ?_)) (fun b => ⟨by omega, ih (by omega) _ (kp_tr k (kp_xu (by decide))) (fun j a c => ?_)⟩)⟩
      · by_cases z : j = t
        · rw [z, nt, if_pos (by omega)]; unfold drF; rw [b, if_pos rfl]
        · rw [hj j a c]
          by_cases y : j < t
          · rw [if_pos y, if_pos (by omega)]
          · rw [if_neg y, if_neg (by omega)]
      · by_cases z : j = t
        · rw [z, xu_eq, if_pos (by omega)]; unfold drF; rw [b, if_neg (by decide)]
        · rw [xu_ne z, hj j a c]
          by_cases y : j < t
          · rw [if_pos y, if_pos (by omega)]
          · rw [if_neg y, if_neg (by omega)]
  have l2 : ∀ p : Int, p ≤ s 1 → 0 ≤ p → ∀ h1 : xH, kp [53] h h1 → (∀ k, 0 ≤ k → k < s 0 → h1 53 k = drS s r k p.toNat) → gI wdC d mX7_draft 39 [some (.inr (.inr 0)), some (.inl r), some (.inl p)] h1 Q := by
    refine dn ?_ ?_
    · intro _ h1 k hj
      have e2 : h1 1 2 = s 1 := by rw [k 1 (by decide)]; exact q2
      refine sg_X7_draft_39 (by omega) ?_
      rw [e2]
      exact ⟨⟨inI_s (by omega) (by omega), inI_s (by omega) (by omega)⟩, fun _ => l3 0 (by omega) (by omega) h1 k (fun j a b => by rw [if_neg (by omega)]; exact hj j a b), fun z => absurd z (by omega)⟩
    · intro p hp ih p0 h1 k hj
      have et : ((p.toNat : Nat) : Int) = p := by omega
      have e2 : h1 1 2 = s 1 := by rw [k 1 (by decide)]; exact q2
      have a := w4 p p0 hp
      have b := q4 p p0 hp
      have ih := ih (by omega)
      rw [show (p + 1).toNat = p.toNat + 1 by omega] at ih
      simp only [drS, et] at ih
      refine sg_X7_draft_39 (by omega) ?_
      rw [e2, k 2 (by decide), k 3 (by decide), b.1, b.2.1]
      refine ⟨⟨inI_s (by omega) (by omega), inI_s (by omega) (by omega)⟩, fun z => absurd z (by omega), fun _ => ⟨by omega, ⟨inI_s (by omega) (by omega), hr⟩, fun z => ih h1 k (fun j x y => ?_), fun z => ⟨by omega, sg_X7_drawPin_0 ⟨by omega, by omega, ih _ (kp_tr k (kp_tr (kp_xu (by decide)) (kp_xu (by decide)))) (fun j x y => ?_)⟩⟩⟩⟩
      · rw [if_neg (fun v => z v.1), if_neg (fun v => z v.1)]; exact hj j x y
      · by_cases z1 : j = s (35 + p) + 1
        · rw [z1, xu_eq, if_pos ⟨z, rfl⟩]
        · rw [xu_ne z1, if_neg (fun v => z1 v.2.symm)]
          by_cases z2 : j = s (35 + p)
          · rw [z2, xu_eq, if_pos ⟨z, rfl⟩]
          · rw [xu_ne z2, if_neg (fun v => z2 v.2.symm)]; exact hj j x y
  have l1 : ∀ t : Int, t ≤ s 0 → 0 ≤ t → ∀ h1 : xH, kp [53] h h1 → (∀ k, 0 ≤ k → k < t → h1 53 k = 124) → gI wdC d mX7_draft 12 [some (.inr (.inr 0)), some (.inl r), some (.inl t)] h1 Q := by
    refine dn ?_ ?_
    · intro _ h1 k hj
      have e0 : h1 1 0 = s 0 := by rw [k 1 (by decide)]; exact q1
      refine sg_X7_draft_12 ?_
      rw [e0]
      exact ⟨⟨inI_s (by omega) (by omega), inI_s (by omega) (by omega)⟩, fun _ => l2 0 (by omega) (by omega) h1 k hj, fun z => absurd z (by omega)⟩
    · intro t ht ih t0 h1 k hj
      have e0 : h1 1 0 = s 0 := by rw [k 1 (by decide)]; exact q1
      refine sg_X7_draft_12 ?_
      rw [e0]
      refine ⟨⟨inI_s (by omega) (by omega), inI_s (by omega) (by omega)⟩, fun z => absurd z (by omega), fun _ => ⟨by omega, ih (by omega) _ (kp_tr k (kp_xu (by decide))) (fun j a b => ?_)⟩⟩
      by_cases z : j = t
      · rw [z, xu_eq]
      · rw [xu_ne z]; exact hj j a (by omega)
  exact l1 0 (by omega) (by omega) h (kp_rf _ _) (fun k a b => by omega)
theorem M_draftL {d : Nat} {r : Int} {m : xH} {Q : Int → xH → Prop} (hd : 2 ≤ d) (hW : WFp (m 1)) (hr : inI r) (hq : ∀ m', kp [15] m m' → (∀ k, 0 ≤ k → k < m 1 0 → m' 15 k = drF (m 1) r k) → Q (m 0 23) m') : gI wdM d mX8_draft 27 [some (.inr (.inr 0)), some (.inl r), some (.inl 0), none] m Q := by
  obtain ⟨w1, w2, w3, w4, w5, w6, w7, w8⟩ := id hW
  generalize hs : m 1 = s at *
  have l1 : ∀ t : Int, t ≤ s 0 → 0 ≤ t → ∀ m1 : xH, kp [15] m m1 → (∀ k, 0 ≤ k → k < t → m1 15 k = drF s r k) → gI wdM d mX8_draft 27 [some (.inr (.inr 0)), some (.inl r), some (.inl t), none] m1 Q := by
    refine dn ?_ ?_
    · intro _ m1 k hj
      have e1 : m1 1 = s := by rw [k 1 (by decide)]; exact hs
      have e0 : m1 0 = m 0 := k 0 (by decide)
      refine sg_X8_draft_27 ?_
      rw [e1, e0]
      exact ⟨⟨inI_s (by omega) (by omega), inI_s (by omega) (by omega)⟩, fun _ => hq m1 k hj, fun z => absurd z (by omega)⟩
    · intro t ht ih t0 m1 k hj
      have e1 : m1 1 = s := by rw [k 1 (by decide)]; exact hs
      refine sg_X8_draft_27 ?_
      rw [e1]
      refine ⟨⟨inI_s (by omega) (by omega), inI_s (by omega) (by omega)⟩, fun z => absurd z (by omega), fun _ => ⟨by omega, ?_⟩⟩
      have l2 : ∀ p : Int, p ≤ s 1 → 0 ≤ p → ∀ m2 : xH, kp [15] m m2 → (∀ k, 0 ≤ k → k < t → m2 15 k = drF s r k) → m2 15 t = drS s r t p.toNat → gI wdM d mX8_draft 47 [some (.inr (.inr 0)), some (.inl r), some (.inl t), some (.inl p)] m2 Q := by
        refine dn ?_ ?_
        · intro _ m2 k2 hj2 ht2
          have e2 : m2 1 = s := by rw [k2 1 (by decide)]; exact hs
          refine sg_X8_draft_47 (by omega) ?_
          rw [e2]
          refine ⟨⟨inI_s (by omega) (by omega), inI_s (by omega) (by omega)⟩, fun _ => M_isFilled (by rw [e2]; exact hW) (by omega) hr (fun b => ih (by omega) m2 k2 (fun j a c => ?_)) (fun b => ⟨by omega, ih (by omega) _ (kp_tr k2 (kp_xu (by decide))) (fun j a c => ?_)⟩), fun z => absurd z (by omega)⟩
          · by_cases z : j = t
            · rw [e2] at b
              rw [z, ht2]; unfold drF; rw [b, if_pos rfl]
            · exact hj2 j a (by omega)
          · by_cases z : j = t
            · rw [e2] at b
              rw [z, xu_eq]; unfold drF; rw [b, if_neg (by decide)]
            · rw [xu_ne z]; exact hj2 j a (by omega)
        · intro p hp ihp p0 m2 k2 hj2 ht2
          have et : ((p.toNat : Nat) : Int) = p := by omega
          have e2 : m2 1 = s := by rw [k2 1 (by decide)]; exact hs
          have a := w4 p p0 hp
          have ihp := ihp (by omega)
          rw [show (p + 1).toNat = p.toNat + 1 by omega] at ihp
          simp only [drS, et] at ihp
          refine sg_X8_draft_47 (by omega) ?_
          rw [e2]
          refine ⟨⟨inI_s (by omega) (by omega), inI_s (by omega) (by omega)⟩, fun z => absurd z (by omega), fun _ => ⟨by omega, ⟨inI_s (by omega) (by omega), hr⟩, fun z => ihp m2 k2 hj2 ?_, fun z => M_shares (by omega) (by rw [e2]; omega) (inI_s (by omega) (by omega)) (fun y => ?_) (fun y => ihp m2 k2 hj2 ?_)⟩⟩
          · rw [if_neg (fun v => z v.1), if_neg (fun v => z v.1)]; exact ht2
          · rw [e2] at y ⊢
            unfold shr at y
            refine ⟨by omega, ⟨inI_s (by omega) (by omega), inI_s (by omega) (by omega)⟩, fun x => ⟨by omega, ihp _ (kp_tr k2 (kp_xu (by decide))) (fun j u v => by rw [xu_ne (by omega)]; exact hj2 j u v) ?_⟩, fun x => ⟨by omega, ihp _ (kp_tr k2 (kp_xu (by decide))) (fun j u v => by rw [xu_ne (by omega)]; exact hj2 j u v) ?_⟩⟩
            · rw [xu_eq, if_pos ⟨z, by omega⟩]
            · rw [xu_eq, if_neg (by omega), if_pos ⟨z, x⟩]
          · rw [e2] at y
            unfold shr at y
            rw [if_neg (by omega), if_neg (by omega)]; exact ht2
      exact l2 0 (by omega) (by omega) _ (kp_tr k (kp_xu (by decide))) (fun j a b => by rw [xu_ne (by omega)]; exact hj j a b) (by rw [xu_eq]; rfl)
  exact l1 0 (by omega) (by omega) m (kp_rf _ _) (fun k a b => by omega)
theorem A_draft (r : Int) (hr : inI r) : AI mX7_draft mX8_draft [.inl r] := by
  intro h m hR
  obtain ⟨⟨i1, -⟩, r1, r2, -⟩ := id hR
  have w1 := i1.1.1
  by_cases c : 0 ≤ r ∧ r ≤ 99
  · refine ⟨m 1 0, fun h' => ∃ h1, h' = xu h1 0 12 (m 1 0) ∧ kp [53] h h1 ∧ ∀ k, 0 ≤ k → k < m 1 0 → h1 53 k = drF (m 1) r k, fun m' => kp [15] (xu m 0 23 (m 1 0)) m' ∧ (∀ k, 0 ≤ k → k < m 1 0 → m' 15 k = drF (m 1) r k), inI_s (by omega) (by omega), ?_, ?_, ?_⟩
    · exact sg_X7_draft_0 (by omega) (C_isRow hr (fun _ => C_draftL (by omega) i1.1 r1 hr (fun h1 k1 k2 => ⟨rfl, h1, rfl, k1, k2⟩)) (fun z => absurd c z))
    · refine sg_X8_draft_0 (by omega) ⟨hr, M_isIn (inL_I hr) (by unfold inL; omega) (by unfold inL; omega) (fun _ => M_draftL (by omega) (by rw [xu_oth (by decide)]; exact i1.1) hr (fun m' k1 k2 => ⟨xu_eq, k1, ?_⟩)) (fun z => absurd (by omega) z)⟩
      rw [xu_oth (by decide)] at k2; exact k2
    · intro h' m' ⟨h1, e, k1, k2⟩ ⟨l1, l2⟩
      subst e
      have m0 : m' 0 = xu m 0 23 (m 1 0) 0 := l1 0 (by decide)
      have e23 : m' 0 23 = m 1 0 := by rw [m0, xu_eq]
      refine hR.paperU (kp_tr (kp_mono k1 (by decide)) (kp_xu (by decide))) (kp_tr (kp_xu (by decide)) (kp_mono l1 (by decide))) ?_ ?_ ?_ ?_ (by rw [e23]; omega) (fun i a b => ?_)
      · rw [xu_ne (by decide), k1 0 (by decide)]
      · rw [m0, xu_ne (by decide)]
      · rw [m0, xu_ne (by decide)]
      · rw [xu_eq, e23]
      · rw [e23] at b
        rw [xu_cn (by decide), k2 i a b, l2 i a b]
        exact ⟨rfl, drF_in _ _ _⟩
  · refine A_ref hR ⟨-2, inI_s (by omega) (by omega), ?_, ?_⟩
    · exact sg_X7_draft_0 (by omega) (C_isRow hr (fun z => absurd z c) (fun _ => ⟨rfl, keepC_rf h⟩))
    · exact sg_X8_draft_0 (by omega) ⟨hr, M_isIn (inL_I hr) (by unfold inL; omega) (by unfold inL; omega) (fun z => absurd (by omega) c) (fun _ => ⟨rfl, keepM_rf m⟩)⟩
