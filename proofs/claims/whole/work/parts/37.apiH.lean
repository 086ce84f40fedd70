/-! API: the pricking (4): loom, image, restore -/
def s0 (w i : Int) : Int := if i = 0 then w else if 125 ≤ i ∧ i < 137 then 1 else if 157 ≤ i ∧ i < 181 then i - 157 else 0
theorem WF_s0 {s : Int → Int} {w : Int} (hw : 2 ≤ w ∧ w ≤ 12) (hs : ∀ i, 0 ≤ i → i < 1705 → s i = s0 w i) : WF s := by
  have e0 : s 0 = w := by rw [hs 0 (by omega) (by omega)]; rfl
  have e1 : s 1 = 0 := by rw [hs 1 (by omega) (by omega)]; rfl
  have e2 : s 2 = 0 := by rw [hs 2 (by omega) (by omega)]; rfl
  have e3 : s 3 = 0 := by rw [hs 3 (by omega) (by omega)]; rfl
  have e4 : s 4 = 0 := by rw [hs 4 (by omega) (by omega)]; rfl
  refine ⟨⟨by omega, by omega, by omega, fun p a b => by omega, fun p q a b => by omega, fun k a b => Or.inr ?_, fun t a b => by omega, fun t u a b => by omega⟩, WFb_mk0 (by omega) e4 (by omega) (fun p a b => ?_) ?_⟩
  · rw [hs _ (by omega) (by omega)]
    unfold s0
    rw [if_neg (by omega), if_pos (by omega)]
  · rw [hs _ (by omega) (by omega)]
    unfold s0
    rw [if_neg (by omega), if_neg (by omega), if_neg (by omega)]
  · have x : ∀ t, 0 ≤ t → t < 24 → s (157 + t) = t := fun t a b => by
      rw [hs _ (by omega) (by omega)]
      unfold s0
      rw [if_neg (by omega), if_neg (by omega), if_pos (by omega)]; omega
    refine ⟨fun t a b => ?_, fun t u a b c d e => ?_, fun t a b => ?_⟩
    · show 0 ≤ s (157 + t) ∧ s (157 + t) < 2 * s 0
      rw [x t a (by omega)]; omega
    · have e : s (157 + t) = s (157 + u) := e
      rw [x t a (by omega), x u c (by omega)] at e; exact e
    · show 0 ≤ s (157 + (24 + t)) ∧ s (157 + (24 + t)) ≤ 6 * 0
      rw [hs _ (by omega) (by omega)]
      unfold s0
      rw [if_neg (by omega), if_neg (by omega), if_neg (by omega)]; omega
theorem M_starts {d : Nat} {w : Int} {h : xH} {Q : xH → Prop} (hq : ∀ h', kp [1] h h' → (∀ i, 0 ≤ i → i < 1705 → h' 1 i = s0 w i) → Q h') : cV wdM d mX8_starts [.inr (.inr 0), .inl w] h Q := by
  have lp3 : ∀ t : Int, t ≤ 24 → 0 ≤ t → ∀ h1 : xH, kp [1] h h1 → (∀ i, 0 ≤ i → i < 1705 → h1 1 i = if i = 0 then w else if 125 ≤ i ∧ i < 137 then 1 else if 157 ≤ i ∧ i < 157 + t then i - 157 else 0) → gV wdM d mX8_starts 55 [some (.inr (.inr 0)), none, some (.inl t)] h1 Q := by
    refine dn ?_ ?_
    · intro _ h1 k hi
      exact sg_X8_starts_55 ⟨inI_s (by omega) (by omega), fun _ => hq h1 k hi, fun z => absurd z (by omega)⟩
    · intro t ht ih t0 h1 k hi
      refine sg_X8_starts_55 ⟨inI_s (by omega) (by omega), fun z => absurd z (by omega), fun _ => ⟨by omega, ih (by omega) _ (kp_tr k (kp_xu (by decide))) (fun i a b => ?_)⟩⟩
      by_cases z : i = 157 + t
      · rw [z, xu_eq, if_neg (by omega), if_neg (by omega), if_pos (by omega)]; omega
      · rw [xu_ne z, hi i a b]
        split
        · rfl
        · split
          · rfl
          · by_cases y : 157 ≤ i ∧ i < 157 + t
            · rw [if_pos y, if_pos (by omega)]
            · rw [if_neg y, if_neg (by omega)]
  have lp2 : ∀ t : Int, t ≤ 12 → 0 ≤ t → ∀ h1 : xH, kp [1] h h1 → (∀ i, 0 ≤ i → i < 1705 → h1 1 i = if i = 0 then w else if 125 ≤ i ∧ i < 125 + t then 1 else 0) → gV wdM d mX8_starts 31 [some (.inr (.inr 0)), none, some (.inl t)] h1 Q := by
    refine dn ?_ ?_
    · intro _ h1 k hi
      refine sg_X8_starts_31 ⟨inI_s (by omega) (by omega), fun _ => lp3 0 (by omega) (by omega) h1 k (fun i a b => ?_), fun z => absurd z (by omega)⟩
      rw [hi i a b]
      split
      · rfl
      · split
        · rw [if_pos (by omega)]
        · rw [if_neg (by omega), if_neg (by omega)]
    · intro t ht ih t0 h1 k hi
      refine sg_X8_starts_31 ⟨inI_s (by omega) (by omega), fun z => absurd z (by omega), fun _ => ⟨by omega, ih (by omega) _ (kp_tr k (kp_xu (by decide))) (fun i a b => ?_)⟩⟩
      by_cases z : i = 125 + t
      · rw [z, xu_eq, if_neg (by omega), if_pos (by omega)]
      · rw [xu_ne z, hi i a b]
        split
        · rfl
        · by_cases y : 125 ≤ i ∧ i < 125 + t
          · rw [if_pos y, if_pos (by omega)]
          · rw [if_neg y, if_neg (by omega)]
  have lp1 : ∀ t : Int, t ≤ 1705 → 0 ≤ t → ∀ h1 : xH, kp [1] h h1 → (∀ i, 0 ≤ i → i < t → h1 1 i = 0) → gV wdM d mX8_starts 2 [some (.inr (.inr 0)), some (.inl w), some (.inl t)] h1 Q := by
    refine dn ?_ ?_
    · intro _ h1 k hi
      refine sg_X8_starts_2 ⟨inI_s (by omega) (by omega), fun _ => lp2 0 (by omega) (by omega) _ (kp_tr k (kp_xu (by decide))) (fun i a b => ?_), fun z => absurd z (by omega)⟩
      by_cases z : i = 0
      · rw [z, xu_eq, if_pos rfl]
      · rw [xu_ne z, hi i a b, if_neg z, if_neg (by omega)]
    · intro t ht ih t0 h1 k hi
      refine sg_X8_starts_2 ⟨inI_s (by omega) (by omega), fun z => absurd z (by omega), fun _ => ⟨by omega, ih (by omega) _ (kp_tr k (kp_xu (by decide))) (fun i a b => ?_)⟩⟩
      by_cases z : i = t
      · rw [z, xu_eq]
      · rw [xu_ne z]; exact hi i a (by omega)
  exact sg_X8_starts_0 (lp1 0 (by omega) (by omega) h (kp_rf _ _) (fun i a b => by omega))
theorem C_begin0 {d : Nat} {w : Int} {h : xH} {Q : xH → Prop} (hw : 2 ≤ w ∧ w ≤ 12) (hq : ∀ h', kp [6, 7, 8] h h' → (∀ t, 0 ≤ t → t < 2 * w → h' 7 t = t ∧ h' 8 t = 0) → h' 6 2 = 0 → h' 6 3 = 0 → h' 6 6 = 0 → Q h') : cV wdC d mX0_begin [.inr (.inr 6), .inl w] h Q := by
  have lp : ∀ t : Int, t ≤ 2 * w → 0 ≤ t → ∀ h1 : xH, kp [6, 7, 8] h h1 → (∀ i, 0 ≤ i → i < t → h1 7 i = i ∧ h1 8 i = 0) → gV wdC d mX0_begin 2 [some (.inr (.inr 6)), some (.inl w), some (.inl t)] h1 Q := by
    refine dn ?_ ?_
    · intro _ h1 k hi
      refine sg_X0_begin_2 ⟨⟨inI_s (by omega) (by omega), inI_s (by omega) (by omega)⟩, fun _ => hq _ (kp_tr k (kp_tr (kp_tr (kp_xu (by decide)) (kp_xu (by decide))) (kp_xu (by decide)))) (fun t a b => ?_) ?_ ?_ ?_, fun z => absurd z (by omega)⟩
      · simp (disch := omega) only [xu_cn]; exact hi t a b
      · simp (disch := omega) only [xu_ne, xu_eq]
      · simp (disch := omega) only [xu_ne, xu_eq]
      · simp (disch := omega) only [xu_eq]
    · intro t ht ih t0 h1 k hi
      refine sg_X0_begin_2 ⟨⟨inI_s (by omega) (by omega), inI_s (by omega) (by omega)⟩, fun z => absurd z (by omega), fun _ => ⟨by omega, by omega, ih (by omega) _ (kp_tr k (kp_tr (kp_xu (by decide)) (kp_xu (by decide)))) (fun i a b => ?_)⟩⟩
      by_cases z : i = t
      · subst z; simp (disch := omega) only [xu_cn, xu_eq]; exact ⟨trivial, trivial⟩
      · simp (disch := omega) only [xu_cn, xu_ne]; exact hi i a (by omega)
  exact sg_X0_begin_0 (lp 0 (by omega) (by omega) h (kp_rf _ _) (fun i a b => by omega))
theorem C_begin3 {d : Nat} {w : Int} {h : xH} {Q : xH → Prop} (hw : 2 ≤ w ∧ w ≤ 12) (hq : ∀ h', kp [1] h h' → h' 1 0 = w → h' 1 1 = ((2 ^ w.toNat - 1 : Nat) : Int) → h' 1 2 = 0 → h' 1 6 = 0 → Q h') : cV wdC d mX3_begin [.inr (.inr 1), .inl w] h Q := by
  refine sg_X3_begin_0 ⟨by omega, hq _ (kp_tr (kp_tr (kp_tr (kp_xu (by decide)) (kp_xu (by decide))) (kp_xu (by decide))) (kp_xu (by decide))) ?_ ?_ ?_ ?_⟩
  · simp (disch := omega) only [xu_ne, xu_eq]
  · simp (disch := omega) only [xu_ne, xu_eq]
    rw [Int.one_mul, pow_nat]
    have : 0 < 2 ^ w.toNat := Nat.two_pow_pos _
    omega
  · simp (disch := omega) only [xu_ne, xu_eq]
  · simp (disch := omega) only [xu_eq]
/-- a loom as at first: both rows -/
theorem RP0 {h : xH} {s : Int → Int} {w : Int} (hw : 2 ≤ w ∧ w ≤ 12) (hs : ∀ i, 0 ≤ i → i < 1705 → s i = s0 w i) (g0 : h 1 0 = w) (g1 : h 1 1 = ((2 ^ w.toNat - 1 : Nat) : Int)) (g2 : h 1 2 = 0) (g6 : h 1 6 = 0) : RPat h 1 2 3 4 5 s := by
  have e0 : s 0 = w := by rw [hs 0 (by omega) (by omega)]; rfl
  have e1 : s 1 = 0 := by rw [hs 1 (by omega) (by omega)]; rfl
  have e2 : s 2 = 0 := by rw [hs 2 (by omega) (by omega)]; rfl
  unfold RPat tcs
  rw [e0, e1, e2]
  refine ⟨g0, g2, g6, fun p a b => by omega, ⟨2 ^ w.toNat - 1, g1, ?_, fun k hk => ?_⟩, fun t a b => by omega, fun t u a b c => by omega, List.Perm.refl _⟩
  · have : 0 < 2 ^ w.toNat := Nat.two_pow_pos _
    omega
  · rw [hs _ (by omega) (by omega)]
    unfold s0 bti
    rw [if_neg (by omega), if_pos (by omega), Nat.testBit_two_pow_sub_one, decide_eq_true (by omega), if_pos rfl]
theorem RB0 {h : xH} {s : Int → Int} {w : Int} (hw : 2 ≤ w ∧ w ≤ 12) (hs : ∀ i, 0 ≤ i → i < 1705 → s i = s0 w i) (gt : ∀ t, 0 ≤ t → t < 2 * w → h 7 t = t ∧ h 8 t = 0) (g2 : h 6 2 = 0) (g3 : h 6 3 = 0) (g6 : h 6 6 = 0) : RBen h 6 7 8 9 10 s := by
  have e0 : s 0 = w := by rw [hs 0 (by omega) (by omega)]; rfl
  have e3 : s 3 = 0 := by rw [hs 3 (by omega) (by omega)]; rfl
  have e4 : s 4 = 0 := by rw [hs 4 (by omega) (by omega)]; rfl
  unfold RBen
  rw [e0, e3, e4]
  refine ⟨fun t a b => ?_, ⟨0, g2, by decide, fun p hp => ?_⟩, g3, g6, fun i a b => by omega⟩
  · rw [(gt t a b).1, (gt t a b).2, hs _ (by omega) (by omega), hs _ (by omega) (by omega)]
    unfold s0
    rw [if_neg (by omega), if_neg (by omega), if_pos (by omega), if_neg (by omega), if_neg (by omega), if_neg (by omega)]
    omega
  · rw [hs _ (by omega) (by omega)]
    unfold s0 bti
    rw [if_neg (by omega), if_neg (by omega), if_neg (by omega)]; simp
theorem A_loom (w : Int) (hw : inI w) : AI mX7_loom mX8_loom [.inl w] := by
  intro h m hR
  obtain ⟨⟨i1, i2, i3, i4, i5, i6, i7, i8, i9⟩, r1, r2, r3, r4, r5, r6, r7⟩ := id hR
  have w1 := i1.1.1
  by_cases c1 : 2 ≤ w ∧ w ≤ 12
  · refine ⟨m 1 0, fun h' => kp [1, 6, 7, 8] h h' ∧ RPat h' 1 2 3 4 5 (s0 w) ∧ (∀ t, 0 ≤ t → t < 2 * w → h' 7 t = t ∧ h' 8 t = 0) ∧ h' 6 2 = 0 ∧ h' 6 3 = 0 ∧ h' 6 6 = 0 ∧ h' 1 0 = w ∧ h' 1 1 = ((2 ^ w.toNat - 1 : Nat) : Int) ∧ h' 1 2 = 0 ∧ h' 1 6 = 0, fun m' => kp [1] m m' ∧ ∀ i, 0 ≤ i → i < 1705 → m' 1 i = s0 w i, inI_s (by omega) (by omega), ?_, ?_, ?_⟩
    · refine sg_X7_loom_0 (by omega) ⟨hw, by omega, fun _ => ⟨hw, fun _ => C_begin3 c1 (fun h1 k1 g0 g1 g2 g6 => C_begin0 c1 (fun h2 k2 gt f2 f3 f6 => ⟨r1.1, ?_⟩)), by omega⟩⟩
      have e1 : h2 1 = h1 1 := k2 1 (by decide)
      refine ⟨kp_tr (kp_mono k1 (by decide)) (kp_mono k2 (by decide)), RP0 c1 (fun i _ _ => rfl) (by rw [e1]; exact g0) (by rw [e1]; exact g1) (by rw [e1]; exact g2) (by rw [e1]; exact g6), gt, f2, f3, f6, by rw [e1]; exact g0, by rw [e1]; exact g1, by rw [e1]; exact g2, by rw [e1]; exact g6⟩
    · exact sg_X8_loom_0 (by omega) ⟨hw, M_isIn (inL_I hw) (by unfold inL; omega) (by unfold inL; omega) (fun _ => M_starts (fun m' k hs => ⟨rfl, k, hs⟩)) (fun z => absurd c1 z)⟩
    · intro h' m' ⟨k1, _, gt, f2, f3, f6, g0, g1, g2, g6⟩ ⟨k2, hs⟩
      have m0 : m' 0 = m 0 := k2 0 (by decide)
      exact hR.patU (kp_mono k1 (by decide)) (kp_mono k2 (by decide)) (by rw [m0]) (by rw [m0]) (by rw [m0]) (WF_s0 c1 hs) (RP0 c1 hs g0 g1 g2 g6) (RB0 c1 hs gt f2 f3 f6)
  · refine A_ref hR ⟨-2, inI_s (by omega) (by omega), ?_, ?_⟩
    · exact sg_X7_loom_0 (by omega) ⟨hw, fun _ => ⟨rfl, keepC_rf h⟩, fun _ => ⟨hw, by omega, fun _ => ⟨rfl, keepC_rf h⟩⟩⟩
    · exact sg_X8_loom_0 (by omega) ⟨hw, M_isIn (inL_I hw) (by unfold inL; omega) (by unfold inL; omega) (fun z => absurd z c1) (fun z => ⟨rfl, keepM_rf m⟩)⟩
/-- rows that agree -/
theorem WF_ag {s s' : Int → Int} (hW : WF s) (e : ∀ i, 0 ≤ i → i < 1705 → s' i = s i) : WF s' := by
  obtain ⟨w1, w2, w3, w4, w5, w6, w7, w8⟩ := id hW.1
  have v1 := hW.2.1
  exact ⟨WFp_of hW.1 (e 0 (by omega) (by omega)) (e 1 (by omega) (by omega)) (e 2 (by omega) (by omega)) (fun p a b => ⟨e _ (by omega) (by omega), e _ (by omega) (by omega), by rw [e _ (by omega) (by omega)]; exact (w4 p a b).2.2⟩) (fun k a b => by rw [e _ (by omega) (by omega)]; exact w6 k a b) (fun t a b => e _ (by omega) (by omega)), WFb_of hW (fun i a b => e i a (by omega)) (by rw [e 3 (by omega) (by omega)]; exact v1)⟩
theorem RPat_ag {h h' : xH} {c r sl st tu c' r' sl' st' tu' : Nat} {s s' : Int → Int} (hW : WFp s) (hR : RPat h c r sl st tu s) (e : ∀ i, 0 ≤ i → i < 1705 → s' i = s i) (g0 : h' c' 0 = h c 0) (g1 : h' c' 1 = h c 1) (g2 : h' c' 2 = h c 2) (g6 : h' c' 6 = h c 6) (gr : ∀ i, 0 ≤ i → i < 30 → h' r' i = h r i) (gs : ∀ i, 0 ≤ i → i < 30 → h' sl' i = h sl i) (gt : ∀ i, 0 ≤ i → i < 30 → h' st' i = h st i) (gu : ∀ i, 0 ≤ i → i < 10 → h' tu' i = h tu i) : RPat h' c' r' sl' st' tu' s' := by
  obtain ⟨q1, q2, q3, q4, ⟨f, q5, qf, qb⟩, q6, q7, q8⟩ := hR
  obtain ⟨w1, w2, w3, w4, w5, w6, w7, w8⟩ := hW
  unfold RPat
  rw [e 0 (by omega) (by omega), e 1 (by omega) (by omega), e 2 (by omega) (by omega), g0, g1, g2, g6]
  refine ⟨q1, q2, q3, fun p a b => ?_, ⟨f, q5, qf, fun k hk => ?_⟩, fun t a b => ?_, fun t u a b c => ?_, ?_⟩
  · rw [gr p a (by omega), gs p a (by omega), gt p a (by omega), e _ (by omega) (by omega), e _ (by omega) (by omega), e _ (by omega) (by omega)]
    exact q4 p a b
  · rw [e _ (by omega) (by omega)]; exact qb k hk
  · rw [gu t a (by omega)]; exact q6 t a b
  · rw [gu t a (by omega), gu u (by omega) (by omega)]; exact q7 t u a b c
  · have x1 : tcs s' = tcs s := by
      unfold tcs
      rw [e 2 (by omega) (by omega)]
      exact List.map_congr_left (fun t ht => by have := List.mem_range.mp ht; exact e _ (by omega) (by omega))
    rw [x1]
    have x2 : (List.range (s 2).toNat).map (fun t : Nat => 100 * (h' tu' t % 16) + h' tu' t / 16) = (List.range (s 2).toNat).map (fun t : Nat => 100 * (h tu t % 16) + h tu t / 16) :=
      List.map_congr_left (fun t ht => by have := List.mem_range.mp ht; rw [gu t (by omega) (by omega)])
    rw [x2]; exact q8
theorem RBen_ag {h h' : xH} {c th ov wk hb c' th' ov' wk' hb' : Nat} {s s' : Int → Int} (hW : WF s) (hB : RBen h c th ov wk hb s) (e : ∀ i, 0 ≤ i → i < 1705 → s' i = s i) (g2 : h' c' 2 = h c 2) (g3 : h' c' 3 = h c 3) (g6 : h' c' 6 = h c 6) (gt : ∀ i, 0 ≤ i → i < 24 → h' th' i = h th i) (go : ∀ i, 0 ≤ i → i < 24 → h' ov' i = h ov i) (gw : ∀ i, 0 ≤ i → i < 30 → h' wk' i = h wk i) (gh : ∀ i, 0 ≤ i → i < 30 → h' hb' i = h hb i) : RBen h' c' th' ov' wk' hb' s' := by
  obtain ⟨b1, ⟨D, b2, b3, b4⟩, b5, b6, b7⟩ := hB
  have w1 := hW.1.1
  have w2 := hW.1.2.1
  have v2 := hW.2.2.1
  unfold RBen
  rw [e 0 (by omega) (by omega), e 3 (by omega) (by omega), e 4 (by omega) (by omega), g2, g3, g6]
  refine ⟨fun t a b => ?_, ⟨D, b2, b3, fun p hp => ?_⟩, b5, b6, fun i a b => ?_⟩
  · rw [gt t a (by omega), go t a (by omega), e _ (by omega) (by omega), e _ (by omega) (by omega)]; exact b1 t a b
  · rw [e _ (by omega) (by omega)]; exact b4 p hp
  · rw [gw i a (by omega), gh i a (by omega), e _ (by omega) (by omega), e _ (by omega) (by omega)]; exact b7 i a b
theorem xcp_in {h : xH} {c0 c1 : Nat} {n i : Int} (a : 0 ≤ i ∧ i < n) : xcp h c0 c1 n c1 i = h c0 i := by simp [xcp, a]
theorem xcp_cn {h : xH} {c0 c1 c : Nat} {n i : Int} (a : c ≠ c1) : xcp h c0 c1 n c i = h c i := by simp [xcp, a]
theorem xcp_oth {h : xH} {c0 c1 c : Nat} {n : Int} (a : c ≠ c1) : xcp h c0 c1 n c = h c := by funext i; simp [xcp, a]
theorem kp_xcp {l : List Nat} {h : xH} {c0 c : Nat} {n : Int} (hc : c ∈ l) : kp l h (xcp h c0 c n) := fun c' hc' => xcp_oth (fun e => hc' (e ▸ hc))
theorem A_image : AI mX7_image mX8_image [] := by
  intro h m hR
  obtain ⟨⟨i1, i2, i3, i4, i5, i6, i7, i8, i9⟩, r1, r2, r3, r4, r5, r6, r7⟩ := id hR
  have w2 := i1.1.2.1
  refine ⟨m 1 1, fun h' => kp [0, 11, 12, 13, 14, 15, 16, 17, 18, 19, 20] h h' ∧ h' 0 4 = 1 ∧ h' 0 12 = h 0 12 ∧ RPat h' 11 12 13 14 15 (m 1) ∧ RBen h' 16 17 18 19 20 (m 1), fun m' => kp [0, 2] m m' ∧ m' 0 3 = 1 ∧ m' 0 22 = m 0 22 ∧ m' 0 23 = m 0 23 ∧ ∀ i, 0 ≤ i → i < 1705 → m' 2 i = m 1 i, inI_s (by omega) (by omega), ?_, ?_, ?_⟩
  · refine sg_X7_image_0 (by omega) (sg_X3_copyFrom_11_1_0 (by omega) (sg_X0_copyFrom_16_6_0 (by omega) ⟨?_, ?_, xu_eq, ?_, ?_, ?_⟩))
    · simp (disch := omega) only [xu_cn, xcp_cn]; exact r1.2.1
    · intro c hc
      simp only [List.mem_cons, List.not_mem_nil, not_or, or_false] at hc
      obtain ⟨c0, c11, c12, c13, c14, c15, c16, c17, c18, c19, c20⟩ := hc
      funext i
      simp (disch := omega) only [xu_cn, xcp_cn]
    · simp (disch := omega) only [xu_cn, xcp_cn, xu_ne]
    · refine RPat_ag i1.1 r1 (fun i _ _ => rfl) ?_ ?_ ?_ ?_ ?_ ?_ ?_ ?_
      · simp (disch := omega) only [xu_cn, xcp_cn, xu_ne, xu_eq]
      · simp (disch := omega) only [xu_cn, xcp_cn, xu_ne, xu_eq]
      · simp (disch := omega) only [xu_cn, xcp_cn, xu_ne, xu_eq]
      · simp (disch := omega) only [xu_cn, xcp_cn, xu_ne, xu_eq]
      · intro i a b; simp (disch := omega) only [xu_cn, xcp_cn, xcp_in]
      · intro i a b; simp (disch := omega) only [xu_cn, xcp_cn, xcp_in]
      · intro i a b; simp (disch := omega) only [xu_cn, xcp_cn, xcp_in]
      · intro i a b; simp (disch := omega) only [xu_cn, xcp_cn, xcp_in]
    · refine RBen_ag i1 r2 (fun i _ _ => rfl) ?_ ?_ ?_ ?_ ?_ ?_ ?_
      · simp (disch := omega) only [xu_cn, xcp_cn, xu_ne, xu_eq]
      · simp (disch := omega) only [xu_cn, xcp_cn, xu_ne, xu_eq]
      · simp (disch := omega) only [xu_cn, xcp_cn, xu_ne, xu_eq]
      · intro i a b; simp (disch := omega) only [xu_cn, xcp_cn, xcp_in]
      · intro i a b; simp (disch := omega) only [xu_cn, xcp_cn, xcp_in]
      · intro i a b; simp (disch := omega) only [xu_cn, xcp_cn, xcp_in]
      · intro i a b; simp (disch := omega) only [xu_cn, xcp_cn, xcp_in]
  · refine sg_X8_image_0 (by omega) ?_
    have lp : ∀ t : Int, t ≤ 1705 → 0 ≤ t → ∀ h1 : xH, kp [2] m h1 → (∀ i, 0 ≤ i → i < t → h1 2 i = m 1 i) → gV wdM 29 mX8_copies 2 [some (.inr (.inr 1)), some (.inr (.inr 2)), some (.inl t)] h1 (fun h1 => h1 1 1 = m 1 1 ∧ kp [0, 2] m (xu h1 0 3 1) ∧ xu h1 0 3 1 0 3 = 1 ∧ xu h1 0 3 1 0 22 = m 0 22 ∧ xu h1 0 3 1 0 23 = m 0 23 ∧ ∀ i, 0 ≤ i → i < 1705 → xu h1 0 3 1 2 i = m 1 i) := by
      refine dn ?_ ?_
      · intro _ h1 k hi
        refine sg_X8_copies_1_2_2 ⟨inI_s (by omega) (by omega), fun _ => ⟨by rw [k 1 (by decide)], kp_tr (kp_mono k (by decide)) (kp_xu (by decide)), xu_eq, ?_, ?_, fun i a b => ?_⟩, fun z => absurd z (by omega)⟩
        · rw [xu_ne (by omega), k 0 (by decide)]
        · rw [xu_ne (by omega), k 0 (by decide)]
        · rw [xu_cn (by decide)]; exact hi i a b
      · intro t ht ih t0 h1 k hi
        refine sg_X8_copies_1_2_2 ⟨inI_s (by omega) (by omega), fun z => absurd z (by omega), fun _ => ⟨by omega, by omega, ih (by omega) _ (kp_tr k (kp_xu (by decide))) (fun i a b => ?_)⟩⟩
        by_cases z : i = t
        · rw [z, xu_eq, k 1 (by decide)]
        · rw [xu_ne z]; exact hi i a (by omega)
    exact sg_X8_copies_1_2_0 (lp 0 (by omega) (by omega) m (kp_rf _ _) (fun i a b => by omega))
  · intro h' m' ⟨k1, g4, g12, gP, gB⟩ ⟨k2, f3, f22, f23, hs⟩
    refine ⟨?_, ?_⟩
    · unfold InvM
      rw [f3, f22, f23, k2 1 (by decide), k2 14 (by decide), k2 15 (by decide), k2 17 (by decide), k2 19 (by decide), k2 20 (by decide)]
      exact ⟨i1, Or.inr ⟨rfl, WF_ag i1 hs⟩, i3, i4, i5, i6, i7, i8, i9⟩
    · unfold RelC
      rw [f3, f22, f23, g4, g12, k2 1 (by decide), k2 14 (by decide), k2 15 (by decide), k2 17 (by decide), k2 19 (by decide), k1 44 (by decide), k1 45 (by decide), k1 51 (by decide), k1 52 (by decide), k1 53 (by decide)]
      refine ⟨r1.congr (k1 1 (by decide)) (k1 2 (by decide)) (k1 3 (by decide)) (k1 4 (by decide)) (k1 5 (by decide)), r2.congr (k1 6 (by decide)) (k1 7 (by decide)) (k1 8 (by decide)) (k1 9 (by decide)) (k1 10 (by decide)), ⟨rfl, fun _ => ⟨RPat_ag i1.1 gP hs rfl rfl rfl rfl (fun _ _ _ => rfl) (fun _ _ _ => rfl) (fun _ _ _ => rfl) (fun _ _ _ => rfl), RBen_ag i1 gB hs rfl rfl rfl (fun _ _ _ => rfl) (fun _ _ _ => rfl) (fun _ _ _ => rfl) (fun _ _ _ => rfl)⟩⟩, r4, r5, r6, r7.congr (k1 54 (by decide))⟩
theorem A_restore : AI mX7_restore mX8_restore [] := by
  intro h m hR
  obtain ⟨⟨i1, i2, i3, i4, i5, i6, i7, i8, i9⟩, r1, r2, r3, r4, r5, r6, r7⟩ := id hR
  by_cases c : m 0 3 = 1
  · have hW2 : WF (m 2) := by
      rcases i2 with z | z
      · omega
      · exact z.2
    obtain ⟨p1, p2⟩ := r3.2 c
    have w2 := hW2.1.2.1
    refine ⟨m 2 1, fun h' => kp [1, 2, 3, 4, 5, 6, 7, 8, 9, 10] h h' ∧ RPat h' 1 2 3 4 5 (m 2) ∧ RBen h' 6 7 8 9 10 (m 2), fun m' => kp [1] m m' ∧ ∀ i, 0 ≤ i → i < 1705 → m' 1 i = m 2 i, inI_s (by omega) (by omega), ?_, ?_, ?_⟩
    · refine sg_X7_restore_0 (by omega) ⟨by rw [r3.1]; exact inI_s (by omega) (by omega), fun _ => sg_X3_copyFrom_1_11_0 (by omega) (sg_X0_copyFrom_6_16_0 (by omega) ⟨?_, ?_, ?_, ?_⟩), fun z => absurd z (by rw [r3.1]; omega)⟩
      · simp (disch := omega) only [xu_cn, xcp_cn, xu_ne, xu_eq]; exact p1.2.1
      · intro c hc
        simp only [List.mem_cons, List.not_mem_nil, not_or, or_false] at hc
        obtain ⟨c1, c2, c3, c4, c5, c6, c7, c8, c9, c10⟩ := hc
        funext i
        simp (disch := omega) only [xu_cn, xcp_cn]
      · refine RPat_ag hW2.1 p1 (fun i _ _ => rfl) ?_ ?_ ?_ ?_ ?_ ?_ ?_ ?_
        · simp (disch := omega) only [xu_cn, xcp_cn, xu_ne, xu_eq]
        · simp (disch := omega) only [xu_cn, xcp_cn, xu_ne, xu_eq]
        · simp (disch := omega) only [xu_cn, xcp_cn, xu_ne, xu_eq]
        · simp (disch := omega) only [xu_cn, xcp_cn, xu_ne, xu_eq]
        · intro i a b; simp (disch := omega) only [xu_cn, xcp_cn, xcp_in]
        · intro i a b; simp (disch := omega) only [xu_cn, xcp_cn, xcp_in]
        · intro i a b; simp (disch := omega) only [xu_cn, xcp_cn, xcp_in]
        · intro i a b; simp (disch := omega) only [xu_cn, xcp_cn, xcp_in]
      · refine RBen_ag hW2 p2 (fun i _ _ => rfl) ?_ ?_ ?_ ?_ ?_ ?_ ?_
        · simp (disch := omega) only [xu_cn, xcp_cn, xu_ne, xu_eq]
        · simp (disch := omega) only [xu_cn, xcp_cn, xu_ne, xu_eq]
        · simp (disch := omega) only [xu_cn, xcp_cn, xu_ne, xu_eq]
        · intro i a b; simp (disch := omega) only [xu_cn, xcp_cn, xcp_in]
        · intro i a b; simp (disch := omega) only [xu_cn, xcp_cn, xcp_in]
        · intro i a b; simp (disch := omega) only [xu_cn, xcp_cn, xcp_in]
        · intro i a b; simp (disch := omega) only [xu_cn, xcp_cn, xcp_in]
    · refine sg_X8_restore_0 (by omega) ⟨inI_s (by omega) (by omega), fun _ => ?_, fun z => by omega⟩
      have lp : ∀ t : Int, t ≤ 1705 → 0 ≤ t → ∀ h1 : xH, kp [1] m h1 → (∀ i, 0 ≤ i → i < t → h1 1 i = m 2 i) → gV wdM 29 mX8_copies 2 [some (.inr (.inr 2)), some (.inr (.inr 1)), some (.inl t)] h1 (fun h1 => h1 1 1 = m 2 1 ∧ kp [1] m h1 ∧ ∀ i, 0 ≤ i → i < 1705 → h1 1 i = m 2 i) := by
        refine dn ?_ ?_
        · intro _ h1 k hi
          exact sg_X8_copies_2_1_2 ⟨inI_s (by omega) (by omega), fun _ => ⟨hi 1 (by omega) (by omega), k, hi⟩, fun z => absurd z (by omega)⟩
        · intro t ht ih t0 h1 k hi
          refine sg_X8_copies_2_1_2 ⟨inI_s (by omega) (by omega), fun z => absurd z (by omega), fun _ => ⟨by omega, by omega, ih (by omega) _ (kp_tr k (kp_xu (by decide))) (fun i a b => ?_)⟩⟩
          by_cases z : i = t
          · rw [z, xu_eq, k 2 (by decide)]
          · rw [xu_ne z]; exact hi i a (by omega)
      exact sg_X8_copies_2_1_0 (lp 0 (by omega) (by omega) m (kp_rf _ _) (fun i a b => by omega))
    · intro h' m' ⟨k1, gP, gB⟩ ⟨k2, hs⟩
      have m0 : m' 0 = m 0 := k2 0 (by decide)
      exact hR.patU (kp_mono k1 (by decide)) (kp_mono k2 (by decide)) (by rw [m0]) (by rw [m0]) (by rw [m0]) (WF_ag hW2 hs) (RPat_ag hW2.1 gP hs rfl rfl rfl rfl (fun _ _ _ => rfl) (fun _ _ _ => rfl) (fun _ _ _ => rfl) (fun _ _ _ => rfl)) (RBen_ag hW2 gB hs rfl rfl rfl (fun _ _ _ => rfl) (fun _ _ _ => rfl) (fun _ _ _ => rfl) (fun _ _ _ => rfl))
  · refine A_ref hR ⟨-3, inI_s (by omega) (by omega), ?_, ?_⟩
    · exact sg_X7_restore_0 (by omega) ⟨by rw [r3.1]; exact inI_s (by omega) (by omega), fun z => absurd (by rw [r3.1]; omega) z, fun _ => ⟨rfl, keepC_rf h⟩⟩
    · exact sg_X8_restore_0 (by omega) ⟨inI_s (by omega) (by omega), fun z => absurd (by omega) z, fun _ => ⟨rfl, keepM_rf m⟩⟩
