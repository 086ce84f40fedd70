theorem M_seenL {d : Nat} {p l i w : Int} {m m0 : xH} {v : Int → Int} {Q : Int → xH → Prop} (hd : 3 ≤ d) (hW : WF (m0 1)) (hw : w = m0 1 0) (hp : 0 ≤ p ∧ p < m0 1 1) (hl : 0 ≤ l ∧ l < 4) (hi : 0 ≤ i ∧ i + 2 * w ≤ 30) (e1 : m 1 = m0 1) (hv : ∀ t, 0 ≤ t → t < 2 * w → m 19 (30 * l + i + t) = v t ∧ inL (v t))
    (hq : ∀ m', kp [1, 18] m m' → m' 1 = m0 1 → Q (bts (sn v (m0 1) p) 5) m') : gI wdM d mX8_seen 80 [some (.inr (.inr 0)), some (.inl p), some (.inl l), some (.inl i), some (.inl (2 * w)), some (.inl 0), some (.inl 0), none, none] m Q := by
  obtain ⟨w1, w2, w3, w4, w5, w6, w7, w8⟩ := id hW.1
  have a := w4 p hp.1 hp.2
  obtain ⟨n1, n2, n3⟩ := th_now hW
  have v2 := hW.2.2.1
  have tW : thW w 180 (fun u => m0 1 (157 + u)) := by
    rw [hw]
    refine ⟨⟨n1, n2⟩, fun t a b => ?_⟩
    have := n3 t a b
    show 0 ≤ m0 1 (157 + (24 + t)) ∧ m0 1 (157 + (24 + t)) ≤ 180
    rw [show 157 + (24 + t) = 181 + t by omega]; omega
  -- stitch by stitch
  have big : ∀ st : Int, st ≤ 5 → 0 ≤ st → ∀ h1 : xH, kp [1, 18] m h1 → h1 1 = m0 1 → (∀ t, 0 ≤ t → t < 2 * w → h1 18 t = m0 1 (157 + t)) → gI wdM d mX8_seen 114 [some (.inr (.inr 0)), some (.inl p), some (.inl l), some (.inl i), some (.inl (2 * w)), some (.inl (bts (sn v (m0 1) p) st.toNat)), some (.inl st), none, none] h1 Q := by
    refine dn ?_ ?_
    · intro _ h1 k e _
      exact sg_X8_seen_114 (by omega) ⟨inI_s (by omega) (by omega), fun _ => hq h1 k e, fun z => absurd z (by omega)⟩
    · intro st hst ih s0 h1 k e e18
      have et : ((st.toNat : Nat) : Int) = st := by omega
      have ih := ih (by omega)
      rw [show (st + 1).toNat = st.toNat + 1 by omega] at ih
      simp only [bts, et] at ih
      have hT : thR w (thv h1) := by unfold thv; rw [e]; exact tW.1
      refine sg_X8_seen_114 (by omega) ⟨inI_s (by omega) (by omega), fun z => absurd z (by omega), fun _ => ⟨by omega, ?_⟩⟩
      rw [e, show (0 : Int) = b2i false from rfl]
      refine M_stitches (by omega) hT (by omega) (by omega) (by omega) (fun h2 k2 j2 e2 => ?_)
      have sm : smT w (fun u => m0 1 (157 + u)) (thv h2) (stf (m0 1 (35 + p)) st (fun u => m0 1 (157 + u))) := by
        rw [e2]
        refine smT.st ?_ tW (by omega) (by omega)
        unfold thv; rw [e]
        exact ⟨fun _ _ _ => rfl, fun _ _ => rfl⟩
      have tS := tW.st (sl := m0 1 (35 + p)) (st := st) (by omega) (by omega)
      have g19 : h2 19 = m 19 := (k2 19 (by decide)).trans (k 19 (by decide))
      have g18 : h2 18 = h1 18 := k2 18 (by decide)
      have l2 : ∀ t : Int, t ≤ 2 * w → 0 ≤ t → gI wdM d mX8_seen 142 [some (.inr (.inr 0)), some (.inl p), some (.inl l), some (.inl i), some (.inl (2 * w)), some (.inl (bts (sn v (m0 1) p) st.toNat)), some (.inl st), some (.inl (b2i (alb (fun t => decide (v t = stf (m0 1 (35 + p)) st (fun u => m0 1 (157 + u)) t)) t.toNat))), some (.inl t)] h2 Q := by
        refine dn ?_ ?_
        · intro _
          refine sg_X8_seen_142 ⟨⟨inI_s (by omega) (by omega), inI_s (by omega) (by omega)⟩, fun _ => ?_, fun z => absurd z (by omega)⟩
          have en : alb (fun t => decide (v t = stf (m0 1 (35 + p)) st (fun u => m0 1 (157 + u)) t)) (2 * w).toNat = sn v (m0 1) p st := by unfold sn; rw [hw]
          rw [en]
          -- back again
          have l3 : ∀ t : Int, t ≤ 2 * w → 0 ≤ t → ∀ h3 : xH, kp [1] h2 h3 → (∀ j, h3 1 j = if 157 ≤ j ∧ j < 157 + t then m0 1 j else h2 1 j) → gI wdM d mX8_seen 198 [some (.inr (.inr 0)), some (.inl p), some (.inl l), some (.inl i), some (.inl (2 * w)), some (.inl (bts (sn v (m0 1) p) st.toNat)), some (.inl st), some (.inl (b2i (sn v (m0 1) p st))), some (.inl t)] h3 Q := by
            refine dn ?_ ?_
            · intro _ h3 k3 j3
              have e3 : h3 1 = m0 1 := by
                funext j
                rw [j3]
                by_cases z : 157 ≤ j ∧ j < 157 + 2 * w
                · rw [if_pos z]
                · rw [if_neg z]
                  by_cases y : j < 157 ∨ 205 ≤ j
                  · rw [j2 j y, e]
                  · have := sm.2 (j - 157) (by omega)
                    unfold thv at this
                    simp only [show 157 + (j - 157) = j by omega] at this
                    exact this
              have nxt := ih h3 (kp_tr k (kp_tr (kp_mono k2 (by decide)) (kp_mono k3 (by decide)))) e3 (fun t t0 t1 => by rw [k3 18 (by decide), g18]; exact e18 t t0 t1)
              have bl : bts (sn v (m0 1) p) st.toNat < 2 ^ 30 := Nat.lt_of_lt_of_le (bts_lt _ _) (two_pow_le (by omega))
              refine sg_X8_seen_198 ⟨⟨inI_s (by omega) (by omega), inI_s (by omega) (by omega)⟩, fun _ => ⟨b2i_in _, fun z => ?_, fun z => ⟨by omega, ?_⟩⟩, fun z => absurd z (by omega)⟩
              · cases hb : sn v (m0 1) p st with
                | true => rw [hb] at z; exact absurd z (by decide)
                | false =>
                  rw [hb, if_neg (by decide)] at nxt
                  have : xorI ((bts (sn v (m0 1) p) st.toNat : Nat) : Int) 0 = ((bts (sn v (m0 1) p) st.toNat : Nat) : Int) := by
                    have := xorI_nat (a := bts (sn v (m0 1) p) st.toNat) (b := 0) (by omega) (by omega)
                    rw [Nat.or_zero] at this
                    exact this
                  rw [this]; exact nxt
              · cases hb : sn v (m0 1) p st with
                | false => rw [hb] at z; exact absurd rfl z
                | true =>
                  rw [hb, if_pos rfl] at nxt
                  rw [xorI_p bl s0 (by omega)]; exact nxt
            · intro t ht ih3 t0 h3 k3 j3
              refine sg_X8_seen_198 ⟨⟨inI_s (by omega) (by omega), inI_s (by omega) (by omega)⟩, fun z => absurd z (by omega), fun _ => ⟨by omega, by omega, ih3 (by omega) _ (kp_tr k3 (kp_xu (by decide))) (fun j => ?_)⟩⟩
              by_cases z : j = 157 + t
              · rw [z, xu_eq, if_pos (by omega), k3 18 (by decide), g18]; exact e18 t t0 ht
              · rw [xu_ne z, j3]
                by_cases y : 157 ≤ j ∧ j < 157 + t
                · rw [if_pos y, if_pos (by omega)]
                · rw [if_neg y, if_neg (by omega)]
          exact l3 0 (by omega) (by omega) h2 (kp_rf _ _) (fun j => by rw [if_neg (by omega)])
        · intro t ht ih2 t0
          have et2 : ((t.toNat : Nat) : Int) = t := by omega
          have ih2 := ih2 (by omega)
          rw [show (t + 1).toNat = t.toNat + 1 by omega] at ih2
          simp only [alb, et2] at ih2
          have y := hv t t0 ht
          have g := sm.1 t t0 ht
          unfold thv at g
          have g2 := tS.1.1 t t0 ht
          refine sg_X8_seen_142 ⟨⟨inI_s (by omega) (by omega), inI_s (by omega) (by omega)⟩, fun z => absurd z (by omega), fun _ => ?_⟩
          rw [g19, y.1, g]
          refine ⟨by omega, by omega, inI_s (by omega) (by omega), ⟨y.2, inL_I (inI_s (by omega) (by omega))⟩, fun z => ?_, fun z => ?_⟩
          · rw [decide_eq_false z] at ih2
            rw [show (0 : Int) = b2i false from rfl, xand_b]; exact ih2
          · rw [decide_eq_true z] at ih2
            rw [show (1 : Int) = b2i true from rfl, xand_b]; exact ih2
      exact l2 0 (by omega) (by omega)
  have l0 : ∀ t : Int, t ≤ 2 * w → 0 ≤ t → ∀ h1 : xH, kp [18] m h1 → (∀ u, 0 ≤ u → u < t → h1 18 u = m0 1 (157 + u)) → gI wdM d mX8_seen 80 [some (.inr (.inr 0)), some (.inl p), some (.inl l), some (.inl i), some (.inl (2 * w)), some (.inl 0), some (.inl t), none, none] h1 Q := by
    refine dn ?_ ?_
    · intro _ h1 k e
      exact sg_X8_seen_80 ⟨⟨inI_s (by omega) (by omega), inI_s (by omega) (by omega)⟩, fun _ => big 0 (by omega) (by omega) h1 (kp_mono k (by decide)) (by rw [k 1 (by decide), e1]) e, fun z => absurd z (by omega)⟩
    · intro t ht ih t0 h1 k e
      refine sg_X8_seen_80 ⟨⟨inI_s (by omega) (by omega), inI_s (by omega) (by omega)⟩, fun z => absurd z (by omega), fun _ => ⟨by omega, by omega, ih (by omega) _ (kp_tr k (kp_xu (by decide))) (fun u u0 u1 => ?_)⟩⟩
      by_cases z : u = t
      · rw [z, xu_eq, k 1 (by decide), e1]
      · rw [xu_ne z]; exact e u u0 (by omega)
  exact l0 0 (by omega) (by omega) m (kp_rf _ _) (fun u a b => by omega)
theorem A_seen (p l i : Int) (hp : inI p) (hl : inI l) (hi : inI i) : AI mX7_seen mX8_seen [.inl p, .inl l, .inl i] := by
  intro h m hR
  obtain ⟨⟨i1, i2, i3, i4, i5, i6, i7, i8, i9⟩, r1, r2, r3, r4, r5, r6, r7⟩ := id hR
  obtain ⟨w1, w2, w3, w4, w5, w6, w7, w8⟩ := id i1.1
  have e0 := r1.1
  have e1 := r1.2.1
  by_cases c1 : 0 ≤ p ∧ p < m 1 1
  · by_cases c2 : 0 ≤ l ∧ l < 4
    · have a := i7 l c2.1 c2.2
      have b := r6 l c2.1 c2.2
      by_cases c3 : 0 ≤ m 17 l
      · by_cases c4 : 0 ≤ i
        · have hio : inI (m 17 l - i) := by unfold inI at hi ⊢; omega
          by_cases c5 : 2 * m 1 0 ≤ m 17 l - i
          · obtain ⟨f4, f5, f7, hf⟩ := need_ex i1.1
            have bitr : ∀ g : Int → Int, g p = f5 p → (bts (rdy (m 1) g) (m 1 1).toNat).testBit p.toNat = rdy (m 1) f5 p := fun g eg => by
              rw [bts_bit, decide_eq_true (by omega), Bool.true_and, show ((p.toNat : Nat) : Int) = p by omega]
              exact rdy_congr eg
            have hv : ∀ t, 0 ≤ t → t < 2 * m 1 0 → h 52 (l * 30 + (i + t)) = m 19 (30 * l + i + t) ∧ inL (m 19 (30 * l + i + t)) := fun t t0 t1 => by
              have x := b.2 (i + t) (by omega) (by omega)
              have y := i8 l (i + t) c2.1 c2.2 (by omega) (by omega)
              rw [show 30 * l + i + t = 30 * l + (i + t) by omega]
              exact ⟨x, y⟩
            cases hr : rdy (m 1) f5 p with
            | true =>
              have hz : m 1 (95 + p) = 0 := by
                unfold rdy at hr
                rw [Bool.and_eq_true] at hr
                exact of_decide_eq_true hr.1
              have bl : ∀ n, n ≤ 5 → bts (sn (fun t => m 19 (30 * l + i + t)) (m 1) p) n < 2 ^ 30 := fun n hn => Nat.lt_of_lt_of_le (bts_lt _ _) (two_pow_le (by omega))
              have bl5 : bts (sn (fun t => m 19 (30 * l + i + t)) (m 1) p) 5 < 32 := bts_lt _ 5
              refine ⟨bts (sn (fun t => m 19 (30 * l + i + t)) (m 1) p) 5, fun h' => kp [6, 7, 8, 9, 10, 27, 28, 29, 30, 31] h h' ∧ RPat h' 1 2 3 4 5 (m 1) ∧ RBen h' 6 7 8 9 10 (m 1), fun m' => kp [1, 4, 5, 7, 18] m m' ∧ m' 1 = m 1, inI_s (by omega) (by omega), ?_, ?_, ?_⟩
              · refine sg_X7_seen_0 (by omega) (C_isPin hp (by omega) (fun _ => C_isList hl (fun _ => C_holds c2 (by omega) (fun _ => ⟨hi, by omega, fun _ => ?_⟩) (by omega)) (fun z => absurd c2 z)) (fun z => absurd (by omega) z))
                rw [b.1, e0]
                refine ⟨c2, ⟨inI_s (by omega) (by omega), hio⟩, fun _ => C_readyPins (by omega) i1 r1 r2 (fun g kg hN => ?_), fun z => absurd z (by omega)⟩
                have un := need_uniq i1.1 hN hf
                have hPg := r1.congr (kg 1 (by decide)) (kg 2 (by decide)) (kg 3 (by decide)) (kg 4 (by decide)) (kg 5 (by decide))
                have hBg := r2.congr (kg 6 (by decide)) (kg 7 (by decide)) (kg 8 (by decide)) (kg 9 (by decide)) (kg 10 (by decide))
                refine C_hasPin (by omega) (bts_62 _ (by omega)) (by omega) (fun _ => ?_) (fun b => by rw [bitr _ (un p c1.1 c1.2).2.1, hr] at b; cases b)
                have lp : ∀ st : Int, st ≤ 5 → 0 ≤ st → ∀ h1 : xH, kp [6, 7, 8, 9, 10] g h1 → RBen h1 6 7 8 9 10 (m 1) → gI wdC 30 mX7_seen 88 [some (.inr (.inr 0)), some (.inl p), some (.inl l), some (.inl i), some (.inl (bts (sn (fun t => m 19 (30 * l + i + t)) (m 1) p) st.toNat)), some (.inl st)] h1 (fun n h' => n = bts (sn (fun t => m 19 (30 * l + i + t)) (m 1) p) 5 ∧ kp [6, 7, 8, 9, 10, 27, 28, 29, 30, 31] h h' ∧ RPat h' 1 2 3 4 5 (m 1) ∧ RBen h' 6 7 8 9 10 (m 1)) := by
                  refine dn ?_ ?_
                  · intro _ h1 k hB1
                    exact sg_X7_seen_88 (by omega) ⟨inI_s (by omega) (by omega), fun _ => ⟨rfl, kp_tr (kp_mono kg (by decide)) (kp_mono k (by decide)), hPg.congr (k 1 (by decide)) (k 2 (by decide)) (k 3 (by decide)) (k 4 (by decide)) (k 5 (by decide)), hB1⟩, fun z => absurd z (by omega)⟩
                  · intro st hst ih s0 h1 k hB1
                    have et : ((st.toNat : Nat) : Int) = st := by omega
                    have ih := ih (by omega)
                    rw [show (st + 1).toNat = st.toNat + 1 by omega] at ih
                    simp only [bts, et] at ih
                    have hP1 : RPat h1 1 2 3 4 5 (m 1) := hPg.congr (k 1 (by decide)) (k 2 (by decide)) (k 3 (by decide)) (k 4 (by decide)) (k 5 (by decide))
                    refine sg_X7_seen_88 (by omega) ⟨inI_s (by omega) (by omega), fun z => absurd z (by omega), fun _ => C_wouldBeSeen (v := fun t => m 19 (30 * l + i + t)) (by omega) i1 hP1 hB1 c1.1 c1.2 hz (by omega) c2 (by omega) (fun t t0 t1 => by rw [k 52 (by decide), kg 52 (by decide)]; exact hv t t0 t1) (fun h2 k2 hB2 => ?_)⟩
                    have nx := ih h2 (kp_tr k k2) hB2
                    cases hb : sn (fun t => m 19 (30 * l + i + t)) (m 1) p st with
                    | true =>
                      rw [hb, if_pos rfl] at nx
                      refine Or.inl ⟨rfl, by omega, ?_⟩
                      rw [xorI_p (bl _ (by omega)) s0 (by omega)]; exact nx
                    | false =>
                      rw [hb, if_neg (by decide)] at nx
                      exact Or.inr ⟨rfl, nx⟩
                exact lp 0 (by omega) (by omega) g (kp_rf _ _) hBg
              · refine sg_X8_seen_0 (by omega) (M_isPin (by omega) hp (by omega) (fun _ => M_isList (by omega) hl (fun _ => ⟨c2, inI_s (by omega) (by omega), fun _ => ⟨hi, by omega, fun _ => ⟨c2, ⟨hi, inI_s (by omega) (by omega)⟩, fun _ => M_findsAll (by omega) i1.1 (fun m' km nm => ?_), fun z => absurd z (by omega)⟩⟩, by omega⟩) (fun z => absurd c2 z)) (fun z => absurd c1 z))
                have em : m' 1 = m 1 := km 1 (by decide)
                have un := need_uniq i1.1 nm hf
                refine M_isReady (by omega) (by rw [em]; exact i1) (by rw [em]; exact nm) (by rw [em]; exact c1) (fun _ => M_seenL (m0 := m) (v := fun t => m 19 (30 * l + i + t)) (by omega) i1 rfl c1 c2 (by omega) em (fun t t0 t1 => by rw [km 19 (by decide)]; exact ⟨rfl, (hv t t0 t1).2⟩) (fun m2 k2 e2 => ⟨rfl, kp_tr (kp_mono km (by decide)) (kp_mono k2 (by decide)), e2⟩)) (fun b => ?_)
                rw [em, rdy_congr (un p c1.1 c1.2).2.1, hr] at b; cases b
              · intro h' m' ⟨k1, gP, gB⟩ ⟨k2, em⟩
                have m0 : m' 0 = m 0 := k2 0 (by decide)
                exact hR.patU (kp_mono k1 (by decide)) (kp_mono k2 (by decide)) (by rw [m0]) (by rw [m0]) (by rw [m0]) (by rw [em]; exact i1) (by rw [em]; exact gP) (by rw [em]; exact gB)
            | false =>
              refine A_ref hR ⟨-3, inI_s (by omega) (by omega), ?_, ?_⟩
              · refine sg_X7_seen_0 (by omega) (C_isPin hp (by omega) (fun _ => C_isList hl (fun _ => C_holds c2 (by omega) (fun _ => ⟨hi, by omega, fun _ => ?_⟩) (by omega)) (fun z => absurd c2 z)) (fun z => absurd (by omega) z))
                rw [b.1, e0]
                refine ⟨c2, ⟨inI_s (by omega) (by omega), hio⟩, fun _ => C_readyPins (by omega) i1 r1 r2 (fun g kg hN => ?_), fun z => absurd z (by omega)⟩
                have un := need_uniq i1.1 hN hf
                refine C_hasPin (by omega) (bts_62 _ (by omega)) (by omega) (fun b => ?_) (fun b => ⟨rfl, keepC_need kg⟩)
                rw [bitr _ (un p c1.1 c1.2).2.1, hr] at b; cases b
              · refine sg_X8_seen_0 (by omega) (M_isPin (by omega) hp (by omega) (fun _ => M_isList (by omega) hl (fun _ => ⟨c2, inI_s (by omega) (by omega), fun _ => ⟨hi, by omega, fun _ => ⟨c2, ⟨hi, inI_s (by omega) (by omega)⟩, fun _ => M_findsAll (by omega) i1.1 (fun m' km nm => ?_), fun z => absurd z (by omega)⟩⟩, by omega⟩) (fun z => absurd c2 z)) (fun z => absurd c1 z))
                have em : m' 1 = m 1 := km 1 (by decide)
                have un := need_uniq i1.1 nm hf
                refine M_isReady (by omega) (by rw [em]; exact i1) (by rw [em]; exact nm) (by rw [em]; exact c1) (fun b => ?_) (fun b => ⟨rfl, keepM_need km⟩)
                rw [em, rdy_congr (un p c1.1 c1.2).2.1, hr] at b; cases b
          · refine A_ref hR ⟨-13, inI_s (by omega) (by omega), ?_, ?_⟩
            · refine sg_X7_seen_0 (by omega) (C_isPin hp (by omega) (fun _ => C_isList hl (fun _ => C_holds c2 (by omega) (fun _ => ⟨hi, by omega, fun _ => ?_⟩) (by omega)) (fun z => absurd c2 z)) (fun z => absurd (by omega) z))
              rw [b.1, e0]
              exact ⟨c2, ⟨inI_s (by omega) (by omega), hio⟩, fun z => absurd z (by omega), fun _ => ⟨rfl, keepC_rf h⟩⟩
            · exact sg_X8_seen_0 (by omega) (M_isPin (by omega) hp (by omega) (fun _ => M_isList (by omega) hl (fun _ => ⟨c2, inI_s (by omega) (by omega), fun _ => ⟨hi, by omega, fun _ => ⟨c2, ⟨hi, inI_s (by omega) (by omega)⟩, fun z => absurd z (by omega), fun _ => ⟨rfl, keepM_rf m⟩⟩⟩, by omega⟩) (fun z => absurd c2 z)) (fun z => absurd c1 z))
        · refine A_ref hR ⟨-13, inI_s (by omega) (by omega), ?_, ?_⟩
          · exact sg_X7_seen_0 (by omega) (C_isPin hp (by omega) (fun _ => C_isList hl (fun _ => C_holds c2 (by omega) (fun _ => ⟨hi, fun _ => ⟨rfl, keepC_rf h⟩, by omega⟩) (by omega)) (fun z => absurd c2 z)) (fun z => absurd (by omega) z))
          · exact sg_X8_seen_0 (by omega) (M_isPin (by omega) hp (by omega) (fun _ => M_isList (by omega) hl (fun _ => ⟨c2, inI_s (by omega) (by omega), fun _ => ⟨hi, fun _ => ⟨rfl, keepM_rf m⟩, by omega⟩, by omega⟩) (fun z => absurd c2 z)) (fun z => absurd c1 z))
      · refine A_ref hR ⟨-11, inI_s (by omega) (by omega), ?_, ?_⟩
        · exact sg_X7_seen_0 (by omega) (C_isPin hp (by omega) (fun _ => C_isList hl (fun _ => C_holds c2 (by omega) (by omega) (fun _ => ⟨rfl, keepC_rf h⟩)) (fun z => absurd c2 z)) (fun z => absurd (by omega) z))
        · exact sg_X8_seen_0 (by omega) (M_isPin (by omega) hp (by omega) (fun _ => M_isList (by omega) hl (fun _ => ⟨c2, inI_s (by omega) (by omega), by omega, fun _ => ⟨rfl, keepM_rf m⟩⟩) (fun z => absurd c2 z)) (fun z => absurd c1 z))
    · refine A_ref hR ⟨-1, inI_s (by omega) (by omega), ?_, ?_⟩
      · exact sg_X7_seen_0 (by omega) (C_isPin hp (by omega) (fun _ => C_isList hl (fun z => absurd z c2) (fun _ => ⟨rfl, keepC_rf h⟩)) (fun z => absurd (by omega) z))
      · exact sg_X8_seen_0 (by omega) (M_isPin (by omega) hp (by omega) (fun _ => M_isList (by omega) hl (fun z => absurd z c2) (fun _ => ⟨rfl, keepM_rf m⟩)) (fun z => absurd c1 z))
  · refine A_ref hR ⟨-1, inI_s (by omega) (by omega), ?_, ?_⟩
    · exact sg_X7_seen_0 (by omega) (C_isPin hp (by omega) (fun z => absurd (by omega) c1) (fun _ => ⟨rfl, keepC_rf h⟩))
    · exact sg_X8_seen_0 (by omega) (M_isPin (by omega) hp (by omega) (fun z => absurd z c1) (fun _ => ⟨rfl, keepM_rf m⟩))
