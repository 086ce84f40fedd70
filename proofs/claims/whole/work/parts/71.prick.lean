/-! API pricking -/
theorem InvM.prow {m : xH} {f : Int → Int} (hI : InvM m) (hW : WF f) : InvM (prow m f) := ⟨hW, hI.2⟩
theorem part_D {d : Nat} {T : Int → Int} {n p j : Int} (hd : 13 ≤ d) (hp : 0 ≤ p ∧ p ≤ n) (hj : 0 ≤ j ∧ j ≤ 17) : ∀ s : Int → Int, WF s → ∃ (r : Int) (s1 : Int → Int), inI r ∧ WF s1 ∧ (0 < s 4 → r < 0) ∧ ∀ m : xH, InvM m → m 1 = s →
    (PW m T n p j → cI wdM d mX8_tells [.inr (.inr 0), .inl (4 * j)] m (fun n m' => n = r ∧ m' = prow m s1)) ∧
    ∀ h, Rel h m → PV h T n p j → cI wdC d mX7_tellPart [.inr (.inr 0), .inl j] h (fun n h' => n = r ∧ Rel h' (prow m s1) ∧ kp [1, 2, 3, 4, 5] h h') := by
  intro s hW
  have a := (rK_pf (T := T) hp).2.2.2
  have b := (pB_pf (T := T) hp).2.2.2
  have c := (pC_pf (T := T) hp).2.2.2
  have dd := (pD_pf (T := T) hp).2.2
  have eA : (rK T n p).2.2 = (pA T n p).2.2 := rfl
  rw [eA] at a
  generalize hA : (pA T n p).2.2 = kd at a
  rcases (show kd = 0 ∨ kd = 1 ∨ kd = 2 ∨ kd = 3 by omega) with z | z | z | z
  · obtain ⟨r, s1, h1, h2, h3, h4⟩ := D_pin (d := d - 1) (by omega) (pB T n p).2.2 (pC T n p).2.2 (pD T n p).2.2 (inI_s (by omega) (by omega)) (inI_s (by omega) (by omega)) (inI_s (by omega) (by omega)) s hW
    refine ⟨r, s1, h1, h2, h3, fun m hI hm => ?_⟩
    obtain ⟨g1, g2⟩ := h4 m hI hm
    refine ⟨fun pw => ?_, fun h hR pv => ?_⟩
    · unfold PW at pw
      rw [hA, z] at pw
      obtain ⟨p1, p2, p3, p4⟩ := pw
      refine sg_X8_tells_0 (by omega) ?_
      rw [p1, p2, p3 (by omega), p4 rfl]
      exact ⟨by omega, inI_s (by omega) (by omega), fun _ => ⟨by omega, by omega, by omega, g1⟩, fun y => absurd y (by decide), fun y => absurd rfl y.1⟩
    · unfold PV at pv
      rw [hA, z] at pv
      obtain ⟨p1, p2, p3, p4⟩ := pv
      refine sg_X7_tellPart_0 (by omega) ?_
      rw [p1, p2, p3 (by omega), p4 rfl]
      exact ⟨by omega, by omega, by omega, inI_s (by omega) (by omega), fun _ => ⟨by omega, g2 h hR⟩, fun y => absurd y (by decide), fun y => absurd y (by decide), fun y => absurd y (by omega)⟩
  · obtain ⟨r, s1, h1, h2, h3, h4⟩ := D_turn (d := d - 1) (by omega) (pB T n p).2.2 (pC T n p).2.2 (inI_s (by omega) (by omega)) (inI_s (by omega) (by omega)) s hW
    refine ⟨r, s1, h1, h2, h3, fun m hI hm => ?_⟩
    obtain ⟨g1, g2⟩ := h4 m hI hm
    refine ⟨fun pw => ?_, fun h hR pv => ?_⟩
    · unfold PW at pw
      rw [hA, z] at pw
      obtain ⟨p1, p2, p3, p4⟩ := pw
      refine sg_X8_tells_0 (by omega) ?_
      rw [p1, p2, p3 (by omega)]
      exact ⟨by omega, inI_s (by omega) (by omega), fun y => absurd y (by decide), fun _ => ⟨by omega, by omega, g1⟩, fun y => absurd rfl y.2⟩
    · unfold PV at pv
      rw [hA, z] at pv
      obtain ⟨p1, p2, p3, p4⟩ := pv
      refine sg_X7_tellPart_0 (by omega) ?_
      rw [p1, p2, p3 (by omega)]
      exact ⟨by omega, by omega, by omega, inI_s (by omega) (by omega), fun y => absurd y (by decide), fun _ => g2 h hR, fun y => absurd y (by decide), fun y => absurd y (by omega)⟩
  · obtain ⟨r, s1, h1, h2, h3, h4⟩ := D_fill (d := d - 1) (by omega) (pB T n p).2.2 0 (inI_s (by omega) (by omega)) (inI_s (by omega) (by omega)) s hW
    refine ⟨r, s1, h1, h2, h3, fun m hI hm => ?_⟩
    obtain ⟨g1, g2⟩ := h4 m hI hm
    refine ⟨fun pw => ?_, fun h hR pv => ?_⟩
    · unfold PW at pw
      rw [hA, z] at pw
      obtain ⟨p1, p2, p3, p4⟩ := pw
      refine sg_X8_tells_0 (by omega) ?_
      rw [p1, p2]
      exact ⟨by omega, inI_s (by omega) (by omega), fun y => absurd y (by decide), fun y => absurd y (by decide), fun _ => ⟨by omega, by omega, inI_s (by omega) (by omega), fun _ => g1, fun y => absurd y (by decide)⟩⟩
    · unfold PV at pv
      rw [hA, z] at pv
      obtain ⟨p1, p2, p3, p4⟩ := pv
      refine sg_X7_tellPart_0 (by omega) ?_
      rw [p1, p2]
      exact ⟨by omega, by omega, by omega, inI_s (by omega) (by omega), fun y => absurd y (by decide), fun y => absurd y (by decide), fun _ => g2 h hR, fun y => absurd y (by omega)⟩
  · obtain ⟨r, s1, h1, h2, h3, h4⟩ := D_fill (d := d - 1) (by omega) (pB T n p).2.2 1 (inI_s (by omega) (by omega)) (inI_s (by omega) (by omega)) s hW
    refine ⟨r, s1, h1, h2, h3, fun m hI hm => ?_⟩
    obtain ⟨g1, g2⟩ := h4 m hI hm
    refine ⟨fun pw => ?_, fun h hR pv => ?_⟩
    · unfold PW at pw
      rw [hA, z] at pw
      obtain ⟨p1, p2, p3, p4⟩ := pw
      refine sg_X8_tells_0 (by omega) ?_
      rw [p1, p2]
      exact ⟨by omega, inI_s (by omega) (by omega), fun y => absurd y (by decide), fun y => absurd y (by decide), fun _ => ⟨by omega, by omega, inI_s (by omega) (by omega), fun y => absurd rfl y, fun _ => g1⟩⟩
    · unfold PV at pv
      rw [hA, z] at pv
      obtain ⟨p1, p2, p3, p4⟩ := pv
      refine sg_X7_tellPart_0 (by omega) ?_
      rw [p1, p2]
      exact ⟨by omega, by omega, by omega, inI_s (by omega) (by omega), fun y => absurd y (by decide), fun y => absurd y (by decide), fun y => absurd y (by decide), fun _ => g2 h hR⟩
/-- the pattern of h is that of h' (cells 21 .. 25, and 1 .. 5) -/
def PB (h h' : xH) : Prop := (h' 1 0 = h 21 0 ∧ h' 1 1 = h 21 1 ∧ h' 1 2 = h 21 2 ∧ h' 1 6 = h 21 6) ∧ (∀ i, 0 ≤ i → i < 30 → h' 2 i = h 22 i ∧ h' 3 i = h 23 i ∧ h' 4 i = h 24 i) ∧ ∀ i, 0 ≤ i → i < 10 → h' 5 i = h 25 i
theorem chain {d K : Nat} {T : Int → Int} {n : Int} (hd : 14 ≤ d) (h0 : 0 ≤ n ∧ n ≤ 120) (hK : K ≤ 17) (hc : ∀ j : Nat, j < K → cont T n j) : ∀ (t j : Nat), j + t = K + 1 → ∀ s : Int → Int, WF s → ∃ (R : Int) (sF : Int → Int), inI R ∧ (0 < s 4 → j ≤ K → R = -300 - j) ∧
    (∀ m : xH, InvM m → m 1 = s → (∀ i : Nat, i ≤ K → PW m T n (pl T n i) i) → gI wdM d mX8_pricking 139 [some (.inr (.inr 0)), some (.inl ((K : Int) + 1)), none, some (.inl (j : Int))] m (fun n m' => n = R ∧ (0 ≤ R → m' = prow m sF) ∧ (R < 0 → kp [1] m m' ∧ ∀ i, 0 ≤ i → i < 1705 → m' 1 i = m 3 i))) ∧
    (∀ h m : xH, Rel h m → m 1 = s → (∀ i : Nat, i ≤ K → PV h T n (pl T n i) i) → h 44 4 = (K : Int) + 1 → gI wdC d mX7_pricking 60 [some (.inr (.inr 0)), some (.inl (j : Int))] h (fun n h' => n = R ∧ (0 ≤ R → Rel h' (prow m sF)) ∧ (R < 0 → kp [1, 2, 3, 4, 5] h h' ∧ PB h h'))) := by
  intro t
  induction t with
  | zero =>
    intro j hj s hW
    refine ⟨(K : Int) + 1, s, inI_s (by omega) (by omega), fun _ z => by omega, fun m hI hm pw => ?_, fun h m hR hm pv e4 => ?_⟩
    · exact sg_X8_pricking_139 (by omega) ⟨⟨inI_s (by omega) (by omega), inI_s (by omega) (by omega)⟩, fun _ => ⟨rfl, fun _ => by rw [← hm, prow_self], fun z => by omega⟩, fun z => by omega⟩
    · refine sg_X7_pricking_60 (by omega) ?_
      rw [e4]
      exact ⟨⟨inI_s (by omega) (by omega), inI_s (by omega) (by omega)⟩, fun _ => ⟨rfl, fun _ => by rw [← hm, prow_self]; exact hR, fun z => by omega⟩, fun z => by omega⟩
  | succ t ih =>
    intro j hj s hW
    have pi := pl_in h0.1 j (fun i hi => hc i (by omega))
    obtain ⟨r, s1, h1, h2, h3, h4⟩ := part_D (d := d - 1) (T := T) (n := n) (p := pl T n j) (j := (j : Int)) (by omega) (by omega) (by omega) s hW
    obtain ⟨R, sF, g1, g2, g3, g4⟩ := ih (j + 1) (by omega) s1 h2
    by_cases c : r < 0
    · refine ⟨-300 - (j : Int), s, inI_s (by omega) (by omega), fun _ _ => rfl, fun m hI hm pw => ?_, fun h m hR hm pv e4 => ?_⟩
      · refine sg_X8_pricking_139 (by omega) ⟨⟨inI_s (by omega) (by omega), inI_s (by omega) (by omega)⟩, fun z => by omega, fun _ => ?_⟩
        refine gI_mono ((h4 m hI hm).1 (pw j (by omega))) (fun x m' z => ?_)
        rw [z.1, z.2]
        refine ⟨h1, fun _ => M_back (fun m2 k2 i2 => ⟨rfl, fun y => by omega, fun _ => ⟨kp_tr (prow_kp m s1) k2, fun i a b => ?_⟩⟩), fun y => by omega⟩
        rw [i2 i a b]; rfl
      · refine sg_X7_pricking_60 (by omega) ?_
        rw [e4]
        refine ⟨⟨inI_s (by omega) (by omega), inI_s (by omega) (by omega)⟩, fun z => by omega, fun _ => ?_⟩
        refine gI_mono ((h4 m hR.1 hm).2 h hR (pv j (by omega))) (fun x h' z => ?_)
        obtain ⟨z1, z2, z3⟩ := z
        rw [z1]
        refine ⟨h1, fun y => by omega, fun _ => sg_X3_copyFrom_1_21_0 (by omega) ⟨rfl, fun y => by omega, fun _ => ⟨fun c hc' => ?_, ⟨?_, ?_, ?_, ?_⟩, fun i a b => ⟨?_, ?_, ?_⟩, fun i a b => ?_⟩⟩⟩
        · simp only [List.mem_cons, List.not_mem_nil, not_or, or_false] at hc'
          obtain ⟨c1, c2, c3, c4, c5⟩ := hc'
          funext i
          simp (disch := omega) only [xu_cn, xcp_cn]
          rw [z3 c (by simp [c1, c2, c3, c4, c5])]
        · simp (disch := omega) only [xu_cn, xcp_cn, xu_ne, xu_eq]; rw [z3 21 (by decide)]
        · simp (disch := omega) only [xu_cn, xcp_cn, xu_ne, xu_eq]; rw [z3 21 (by decide)]
        · simp (disch := omega) only [xu_cn, xcp_cn, xu_ne, xu_eq]; rw [z3 21 (by decide)]
        · simp (disch := omega) only [xu_cn, xcp_cn, xu_ne, xu_eq]; rw [z3 21 (by decide)]
        · simp (disch := omega) only [xu_cn, xcp_cn, xcp_in]; rw [z3 22 (by decide)]
        · simp (disch := omega) only [xu_cn, xcp_cn, xcp_in]; rw [z3 23 (by decide)]
        · simp (disch := omega) only [xu_cn, xcp_cn, xcp_in]; rw [z3 24 (by decide)]
        · simp (disch := omega) only [xu_cn, xcp_cn, xcp_in]; rw [z3 25 (by decide)]
    · refine ⟨R, sF, g1, fun z => absurd (h3 z) c, fun m hI hm pw => ?_, fun h m hR hm pv e4 => ?_⟩
      · refine sg_X8_pricking_139 (by omega) ⟨⟨inI_s (by omega) (by omega), inI_s (by omega) (by omega)⟩, fun z => by omega, fun _ => ?_⟩
        refine gI_mono ((h4 m hI hm).1 (pw j (by omega))) (fun x m' z => ?_)
        rw [z.1, z.2]
        refine ⟨h1, fun y => by omega, fun _ => ?_⟩
        have := g3 (prow m s1) (hI.prow h2) rfl (fun i hi => pw i hi)
        rw [show (j : Int) + 1 = ((j + 1 : Nat) : Int) by omega]
        refine gI_mono this (fun x m2 z => ⟨z.1, fun y => ?_, fun y => ⟨kp_tr (prow_kp m s1) (z.2.2 y).1, (z.2.2 y).2⟩⟩)
        rw [z.2.1 y]
        funext c
        unfold prow
        split <;> rfl
      · refine sg_X7_pricking_60 (by omega) ?_
        rw [e4]
        refine ⟨⟨inI_s (by omega) (by omega), inI_s (by omega) (by omega)⟩, fun z => by omega, fun _ => ?_⟩
        refine gI_mono ((h4 m hR.1 hm).2 h hR (pv j (by omega))) (fun x h' z => ?_)
        obtain ⟨z1, z2, z3⟩ := z
        rw [z1]
        refine ⟨h1, fun _ => ?_, fun y => by omega⟩
        have := g4 h' (prow m s1) z2 rfl (fun i hi => ?_) (by rw [z3 44 (by decide)]; exact e4)
        · rw [show (j : Int) + 1 = ((j + 1 : Nat) : Int) by omega]
          refine gI_mono this (fun x h2 z => ⟨z.1, fun y => ?_, fun y => ⟨kp_tr z3 (z.2.2 y).1, ?_⟩⟩)
          · have w := z.2.1 y
            have e : prow (prow m s1) sF = prow m sF := by
              funext c
              unfold prow
              split <;> rfl
            rw [e] at w; exact w
          · have w := (z.2.2 y).2
            unfold PB at w ⊢
            rw [z3 21 (by decide), z3 22 (by decide), z3 23 (by decide), z3 24 (by decide), z3 25 (by decide)] at w
            exact w
        · have := pv i hi
          unfold PV
          rw [z3 46 (by decide), z3 47 (by decide), z3 48 (by decide), z3 49 (by decide)]
          exact this
/-- behind a text that isn't told: the pattern is as it was -/
theorem Rel.undone {hA h' mR m' : xH} (hR : Rel hA mR) (kC : kp [1, 2, 3, 4, 5] hA h') (g : (h' 1 0 = hA 1 0 ∧ h' 1 1 = hA 1 1 ∧ h' 1 2 = hA 1 2 ∧ h' 1 6 = hA 1 6) ∧ (∀ i, 0 ≤ i → i < 30 → h' 2 i = hA 2 i ∧ h' 3 i = hA 3 i ∧ h' 4 i = hA 4 i) ∧ ∀ i, 0 ≤ i → i < 10 → h' 5 i = hA 5 i) (kM : kp [1] mR m') (e : ∀ i, 0 ≤ i → i < 1705 → m' 1 i = mR 1 i) : Rel h' m' := by
  obtain ⟨⟨i1, -⟩, r1, r2, -⟩ := id hR
  have m0 : m' 0 = mR 0 := kM 0 (by decide)
  obtain ⟨⟨a0, a1, a2, a6⟩, b, c⟩ := g
  exact hR.patU (kp_mono kC (by decide)) (kp_mono kM (by decide)) (by rw [m0]) (by rw [m0]) (by rw [m0]) (WF_ag i1 e) (RPat_ag i1.1 r1 e a0 a1 a2 a6 (fun i x y => (b i x y).1) (fun i x y => (b i x y).2.1) (fun i x y => (b i x y).2.2) c)
    (RBen_ag i1 r2 e (by rw [kC 6 (by decide)]) (by rw [kC 6 (by decide)]) (by rw [kC 6 (by decide)]) (fun i _ _ => by rw [kC 7 (by decide)]) (fun i _ _ => by rw [kC 8 (by decide)]) (fun i _ _ => by rw [kC 9 (by decide)]) (fun i _ _ => by rw [kC 10 (by decide)]))
theorem A_pricking : AI mX7_pricking mX8_pricking [] := by
  intro h m hR
  obtain ⟨⟨i1, i2, i3, i4, i5, i6, i7, i8, i9⟩, r1, r2, r3, r4, r5, r6, r7⟩ := id hR
  have hT : TBy (m 14) (m 0 22) := ⟨i3, i4⟩
  obtain ⟨K, hK, hc, hn⟩ := end_ex (T := m 14) i3
  have v2 := i1.2.2.1
  have w2 := i1.1.2.1
  have e63 : h 6 3 = m 1 4 := r2.2.2.1
  -- the tape is empty then
  have hz : Rel (xu h 44 1 0) (xu m 0 22 0) := hR.tapeU (kp_xu (by decide)) (kp_xu (by decide)) (xu_ne (by decide)) (xu_ne (by decide)) (by rw [xu_eq, xu_eq]) (by rw [xu_eq]; omega) (fun i a b => by rw [xu_eq] at b; omega)
  have hA : ∀ h1 : xH, kp [44, 46, 47, 48, 49] h h1 → Rel (xu h1 44 1 0) (xu m 0 22 0) := fun h1 k => by
    refine hz.keep ⟨fun c hc' => ?_, by rw [xu_eq, xu_eq]⟩ (keepM_rf _)
    simp only [List.mem_cons, List.not_mem_nil, not_or, or_false] at hc'
    rw [xu_oth (by omega), xu_oth (by omega), k c (by simp; omega)]
  have hM : ∀ m1 : xH, kp [0, 3, 16] m m1 → m1 0 22 = 0 → (∀ i, i ≠ 22 → i ≠ 24 → i ≠ 25 → m1 0 i = m 0 i) → keepM (xu m 0 22 0) m1 := fun m1 k e22 eo => by
    refine ⟨fun c hc' => ?_, ?_, ?_, ?_⟩
    · simp only [List.mem_cons, List.not_mem_nil, not_or, or_false] at hc'
      rw [xu_oth (by omega), k c (by simp; omega)]
    · rw [xu_ne (by decide), eo 3 (by decide) (by decide) (by decide)]
    · rw [xu_eq, e22]
    · rw [xu_ne (by decide), eo 23 (by decide) (by decide) (by decide)]
  have frng : -1 ≤ rdF (m 14) (m 0 22) K ∧ rdF (m 14) (m 0 22) K ≤ 120 := by
    have pi := pl_in (T := m 14) i3.1 K hc
    have dd := (pD_pf (T := m 14) (n := m 0 22) (p := pl (m 14) (m 0 22) K) (by omega)).1
    unfold pf at dd
    unfold rdF
    split
    · omega
    · split <;> omega
  by_cases c : 0 ≤ rdF (m 14) (m 0 22) K
  · refine ⟨-100 - rdF (m 14) (m 0 22) K, fun h' => Rel h' (xu m 0 22 0), fun m' => keepM (xu m 0 22 0) m', inI_s (by omega) (by omega), ?_, ?_, fun h' m' a b => a.keep (keepC_rf _) b⟩
    · refine sg_X7_pricking_0 (by omega) (C_read (by omega) hT r4.1 (fun i a b => r4.2 i a b) hK hc hn (fun h1 k1 e3 _ => ?_))
      rw [e3]
      exact ⟨inI_s (by omega) (by omega), fun z => by omega, fun _ => ⟨rfl, hA h1 k1⟩⟩
    · exact M_tape (by omega) hT rfl (fun i a b => rfl) i9 hK hc hn (fun _ m' k e22 eo => ⟨rfl, hM m' (kp_mono k (by decide)) e22 eo⟩) (fun z => by omega)
  · obtain ⟨R, sF, g1, g2, g3, g4⟩ := chain (d := 30) (T := m 14) (n := m 0 22) (by omega) i3 hK hc (K + 1) 0 (by omega) (m 1) i1
    refine ⟨R, fun h' => (0 ≤ R → Rel h' (prow (xu m 0 22 0) sF)) ∧ (R < 0 → ∃ hB, Rel hB (xu m 0 22 0) ∧ kp [1, 2, 3, 4, 5] hB h' ∧ (h' 1 0 = hB 1 0 ∧ h' 1 1 = hB 1 1 ∧ h' 1 2 = hB 1 2 ∧ h' 1 6 = hB 1 6) ∧ (∀ i, 0 ≤ i → i < 30 → h' 2 i = hB 2 i ∧ h' 3 i = hB 3 i ∧ h' 4 i = hB 4 i) ∧ ∀ i, 0 ≤ i → i < 10 → h' 5 i = hB 5 i),
      fun m' => ∃ mR, keepM (xu m 0 22 0) mR ∧ (0 ≤ R → m' = prow mR sF) ∧ (R < 0 → kp [1] mR m' ∧ ∀ i, 0 ≤ i → i < 1705 → m' 1 i = mR 1 i), g1, ?_, ?_, ?_⟩
    · refine sg_X7_pricking_0 (by omega) (C_read (by omega) hT r4.1 (fun i a b => r4.2 i a b) hK hc hn (fun h1 k1 e3 pv => ?_))
      obtain ⟨p4, pv⟩ := pv (by omega)
      rw [e3]
      have hR2 := hA h1 k1
      refine ⟨inI_s (by omega) (by omega), fun _ => C_anyDone (by rw [xu_cn (by decide), k1 6 (by decide), e63]; omega) (fun z => ?_) (fun z => ?_), fun z => by omega⟩
      · rw [xu_cn (by decide), k1 6 (by decide), e63] at z
        have eR := g2 z (by omega)
        refine ⟨by omega, fun y => by omega, fun _ => ⟨xu h1 44 1 0, hR2, kp_rf _ _, ⟨rfl, rfl, rfl, rfl⟩, fun _ _ _ => ⟨rfl, rfl, rfl⟩, fun _ _ _ => rfl⟩⟩
      · refine sg_X3_copyFrom_21_1_0 (by omega) ?_
        generalize hg : xcp (xu (xcp (xcp (xcp (xu (xu (xu (xu h1 44 1 0) 21 0 (xu h1 44 1 0 1 0)) 21 1 (xu h1 44 1 0 1 1)) 21 2 (xu h1 44 1 0 1 2)) 2 22 30) 3 23 30) 4 24 30) 21 6 (xu h1 44 1 0 1 6)) 5 25 10 = h3
        have k3 : kp [21, 22, 23, 24, 25] (xu h1 44 1 0) h3 := fun c hc' => by
          simp only [List.mem_cons, List.not_mem_nil, not_or, or_false] at hc'
          obtain ⟨c1, c2, c3, c4, c5⟩ := hc'
          rw [← hg]
          funext i
          simp (disch := omega) only [xu_cn, xcp_cn]
        have hR3 : Rel h3 (xu m 0 22 0) := hR2.keep ⟨kp_mono k3 (by decide), by rw [k3 44 (by decide)]⟩ (keepM_rf _)
        refine gI_mono (g4 h3 (xu m 0 22 0) hR3 (by rw [xu_oth (by decide)]) (fun i hi => ?_) (by rw [k3 44 (by decide), xu_ne (by decide)]; exact p4)) (fun x h' y => ⟨y.1, y.2.1, fun w => ⟨h3, hR3, (y.2.2 w).1, ?_⟩⟩)
        · have := pv i hi
          unfold PV
          rw [k3 46 (by decide), k3 47 (by decide), k3 48 (by decide), k3 49 (by decide), xu_cn (by decide), xu_cn (by decide), xu_cn (by decide), xu_cn (by decide)]
          exact this
        · obtain ⟨⟨b0, b1, b2, b6⟩, b3, b5⟩ := (y.2.2 w).2
          refine ⟨⟨?_, ?_, ?_, ?_⟩, fun i a b => ⟨?_, ?_, ?_⟩, fun i a b => ?_⟩
          · rw [b0, ← hg]; simp (disch := omega) only [xu_cn, xcp_cn, xu_ne, xu_eq]
          · rw [b1, ← hg]; simp (disch := omega) only [xu_cn, xcp_cn, xu_ne, xu_eq]
          · rw [b2, ← hg]; simp (disch := omega) only [xu_cn, xcp_cn, xu_ne, xu_eq]
          · rw [b6, ← hg]; simp (disch := omega) only [xu_cn, xcp_cn, xu_ne, xu_eq]
          · rw [(b3 i a b).1, ← hg]; simp (disch := omega) only [xu_cn, xcp_cn, xcp_in]
          · rw [(b3 i a b).2.1, ← hg]; simp (disch := omega) only [xu_cn, xcp_cn, xcp_in]
          · rw [(b3 i a b).2.2, ← hg]; simp (disch := omega) only [xu_cn, xcp_cn, xcp_in]
          · rw [b5 i a b, ← hg]; simp (disch := omega) only [xu_cn, xcp_cn, xcp_in]
    · refine M_tape (by omega) hT rfl (fun i a b => rfl) i9 hK hc hn (fun z => by omega) (fun _ mR k e22 eo i3' pw => ?_)
      have kk := hM mR k e22 eo
      have em : mR 1 = m 1 := k 1 (by decide)
      refine gI_mono (g3 mR (hz.1.keep kk) em pw) (fun x m' y => ⟨y.1, mR, kk, y.2.1, fun w => ⟨(y.2.2 w).1, fun i a b => ?_⟩⟩)
      rw [(y.2.2 w).2 i a b, i3' i a b, em]
    · intro h' m' a b
      obtain ⟨mR, kk, b1, b2⟩ := b
      by_cases z : 0 ≤ R
      · rw [b1 z]
        refine (a.1 z).keep (keepC_rf _) ⟨fun c hc' => ?_, ?_, ?_, ?_⟩
        · unfold prow
          by_cases y : c = 1
          · rw [if_pos y, if_pos y]
          · rw [if_neg y, if_neg y]; exact kk.1 c hc'
        · exact kk.2.1
        · exact kk.2.2.1
        · exact kk.2.2.2
      · obtain ⟨hB, x1, x2, x3⟩ := a.2 (by omega)
        obtain ⟨y1, y2⟩ := b2 (by omega)
        exact (x1.keep (keepC_rf _) kk).undone x2 x3 y1 y2
