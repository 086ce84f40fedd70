/-! API: orders, order, travel, along -/
theorem L_in {s L : Int → Int} (hL : ∀ p : Nat, p < (s 1).toNat → ¬ s (95 + p) = 1 → L (uc s p) = p) (j : Nat) (hj : j < uc s (s 1).toNat) : 0 ≤ L j ∧ L j < s 1 := by
  obtain ⟨p, g1, g2, g3⟩ := uc_surj s (s 1).toNat j hj
  have := hL p g1 g2
  rw [g3] at this
  omega
theorem lwp_L {s L : Int → Int} (hL : ∀ p : Nat, p < (s 1).toNat → ¬ s (95 + p) = 1 → L (uc s p) = p) : lwp s (s 1).toNat = true ↔ ∀ j : Nat, j < uc s (s 1).toNat → lks s (L j) = false := by
  rw [lwp_iff]
  constructor
  · intro h j hj
    obtain ⟨p, g1, g2, g3⟩ := uc_surj s (s 1).toNat j hj
    have e := hL p g1 g2
    rw [g3] at e
    rw [e]
    exact h p g1 g2
  · intro h p hp hu
    have := h (uc s p) (uc_lt hp hu)
    rw [hL p hp hu] at this
    exact this
theorem M_areFew {d : Nat} {m : xH} {f4 f5 f7 L : Int → Int} {T F : xH → Prop} (hd : 4 ≤ d) (hW : WF (m 1)) (hN : ∀ q, 0 ≤ q → q < m 1 1 → NeedAt (m 1) f4 f5 f7 q) (hL : ∀ p : Nat, p < (m 1 1).toNat → ¬ m 1 (95 + p) = 1 → L (uc (m 1) p) = p)
    (hf : 12 < uc (m 1) (m 1 1).toNat → ∀ m', kp [0, 4, 5, 7, 8] m m' → (∀ i, i ≠ 10 → m' 0 i = m 0 i) → F m')
    (ht : uc (m 1) (m 1 1).toNat ≤ 12 → ∀ m', kp [0, 4, 5, 7, 8] m m' → (∀ i, i ≠ 10 → m' 0 i = m 0 i) → MT m' (uc (m 1) (m 1 1).toNat) L (fun j => m 1 (35 + L j)) (Bx f5 L (uc (m 1) (m 1 1).toNat)) → T m') :
    cB wdM d mX8_areFew [.inr (.inr 0)] m T F := by
  obtain ⟨w1, w2, w3, w4, w5, w6, w7, w8⟩ := id hW.1
  have v3 := hW.2.2.2.1
  have lin := L_in hL
  generalize hs : m 1 = s at *
  have lp : ∀ t : Int, t ≤ s 1 → 0 ≤ t → ∀ m1 : xH, kp [0, 8] m m1 → (∀ i, i ≠ 10 → m1 0 i = m 0 i) → m1 0 10 = min (uc s t.toNat) 12 → (∀ q : Nat, (q : Int) < t → ¬ s (95 + q) = 1 → uc s q < 12 → m1 8 (uc s q) = q) → gI wdM d mX8_areFew 9 [some (.inr (.inr 0)), some (.inl (uc s t.toNat)), some (.inl t)] m1 (fun r h1 => (r = 1 ∧ T h1) ∨ (r = 0 ∧ F h1)) := by
    refine dn ?_ ?_
    · intro _ m1 k1 e0 e10 eL
      have em : m1 1 = s := by rw [k1 1 (by decide)]; exact hs
      have ub := zc_le
      have u30 : uc s (s 1).toNat ≤ (s 1).toNat := by
        have : ∀ n : Nat, uc s n ≤ n := fun n => by
          induction n with
          | zero => exact Nat.le_refl _
          | succ n ih => rw [uc]; split <;> omega
        exact this _
      refine sg_X8_areFew_9 (by omega) ?_
      rw [em]
      refine ⟨⟨inI_s (by omega) (by omega), inI_s (by omega) (by omega)⟩, fun _ => M_findsAll (by omega) (by rw [em]; exact hW.1) (fun m2 k2 hN2 => ?_), fun z => absurd z (by omega)⟩
      rw [em] at hN2
      have kk : kp [0, 4, 5, 7, 8] m m2 := kp_tr (kp_mono k1 (by decide)) (kp_mono k2 (by decide))
      have e0' : ∀ i, i ≠ 10 → m2 0 i = m 0 i := fun i a => by rw [k2 0 (by decide)]; exact e0 i a
      refine ⟨inI_s (by omega) (by omega), fun z => Or.inr ⟨rfl, hf (by omega) m2 kk e0'⟩, fun z => Or.inl ⟨rfl, ht (by omega) m2 kk e0' ⟨?_, fun j hj => ?_⟩⟩⟩
      · rw [k2 0 (by decide), e10]; omega
      · have l := lin j hj
        obtain ⟨p, g1, g2, g3⟩ := uc_surj s (s 1).toNat j hj
        have e := hL p g1 g2
        rw [g3] at e
        obtain ⟨N, n1, n2, n3⟩ := need_N hW.1 hN l.1 l.2
        refine ⟨?_, by omega, by rw [k2 1 (by decide), em], N, ?_, n2, fun i hi => ?_⟩
        · have := eL p (by omega) g2 (by omega)
          rw [g3] at this
          rw [k2 8 (by decide), this, e]
        · rw [(need_uniq hW.1 hN2 hN (L j) l.1 l.2).2.1, n1]
        · rw [Bx_bit f5 L _ j i hi, n1, show ((N : Int)).toNat = N by omega]
    · intro t htt ih t0 m1 k1 e0 e10 eL
      obtain ⟨p, ep⟩ : ∃ p : Nat, t = p := ⟨t.toNat, by omega⟩
      subst ep
      have ih := ih (by omega)
      rw [show ((p : Int) + 1).toNat = p + 1 by omega] at ih
      rw [show ((p : Int)).toNat = p by omega] at e10 ⊢
      have em : m1 1 = s := by rw [k1 1 (by decide)]; exact hs
      have v := v3 p (by omega) (by omega)
      refine sg_X8_areFew_9 (by omega) ?_
      rw [em]
      refine ⟨⟨inI_s (by omega) (by omega), inI_s (by omega) (by omega)⟩, fun z => absurd z (by omega), fun _ => ⟨by omega, inI_s (by omega) (by omega), fun b => ?_, fun b => ?_⟩⟩
      · have up := uc_u b
        rw [up, show ((uc s p + 1 : Nat) : Int) = (uc s p : Int) + 1 by omega] at ih
        refine ⟨inI_s (by omega) (by omega), fun z => ih m1 k1 e0 (by omega) (fun q a c g => ?_), fun z => ⟨by omega, ih _ (kp_tr k1 (kp_tr (kp_xu (by decide)) (kp_xu (by decide)))) (fun i a => by rw [xu_ne a, xu_cn (by decide)]; exact e0 i a) (by rw [xu_eq]; omega) (fun q a c g => ?_)⟩⟩
        · by_cases y : q = p
          · rw [y] at g; omega
          · exact eL q (by omega) c g
        · rw [xu_cn (by decide), e10]
          by_cases y : q = p
          · rw [y, show min (uc s p) 12 = uc s p by omega, xu_eq]
          · have := uc_lt (s := s) (a := q) (b := p) (by omega) c
            rw [xu_ne (by omega)]
            exact eL q (by omega) c g
      · rw [uc_d b] at ih
        refine ih m1 k1 e0 e10 (fun q a c g => ?_)
        by_cases y : q = p
        · rw [y] at c; exact absurd b c
        · exact eL q (by omega) c g
  refine sg_X8_areFew_0 (lp 0 (by omega) (by omega) _ (kp_xu (by decide)) (fun i a => by rw [xu_ne a]) ?_ (fun q a => by omega))
  rw [xu_eq]; rfl
/-- a thought: beside what a question may change, the places where sets are looked up -/
def keepT (h h' : xH) : Prop := kp [21, 22, 23, 24, 25, 26, 27, 28, 29, 30, 31, 32, 33, 34, 35, 36, 37, 38, 39, 40, 41, 42, 43, 44, 46, 47, 48, 49, 54] h h' ∧ h' 44 1 = h 44 1 ∧ RG h'
theorem Rel.keepT {h m h' m' : xH} (hR : Rel h m) (hC : keepT h h') (hM : keepM m m') : Rel h' m' := by
  refine ⟨hR.1.keep hM, ?_⟩
  obtain ⟨k, e3, e22, e23⟩ := hM
  obtain ⟨c, e44, g⟩ := hC
  obtain ⟨r1, r2, r3, r4, r5, r6, r7⟩ := hR.2
  unfold RelC
  rw [e3, e22, e23, e44, k 1 (by decide), k 2 (by decide), k 14 (by decide), k 15 (by decide), k 17 (by decide), k 19 (by decide), c 0 (by decide), c 45 (by decide), c 51 (by decide), c 52 (by decide), c 53 (by decide)]
  refine ⟨r1.congr (c 1 (by decide)) (c 2 (by decide)) (c 3 (by decide)) (c 4 (by decide)) (c 5 (by decide)), r2.congr (c 6 (by decide)) (c 7 (by decide)) (c 8 (by decide)) (c 9 (by decide)) (c 10 (by decide)), ⟨r3.1, fun z => ?_⟩, r4, r5, r6, g⟩
  obtain ⟨a, b⟩ := r3.2 z
  exact ⟨a.congr (c 11 (by decide)) (c 12 (by decide)) (c 13 (by decide)) (c 14 (by decide)) (c 15 (by decide)), b.congr (c 16 (by decide)) (c 17 (by decide)) (c 18 (by decide)) (c 19 (by decide)) (c 20 (by decide))⟩
theorem keepT.more {h h' h2 : xH} {l : List Nat} (a : keepT h h') (k : kp l h' h2) (hl : ∀ x ∈ l, x = 37 ∨ x = 38 := by decide) : keepT h h2 := by
  have n : ∀ x, x ≠ 37 → x ≠ 38 → x ∉ l := fun x h7 h8 hy => by
    rcases hl x hy with z | z
    · exact h7 z
    · exact h8 z
  refine ⟨kp_tr a.1 (fun x hx => k x (n x (fun y => hx ?_) (fun y => hx ?_))), by rw [k 44 (n 44 (by decide) (by decide))]; exact a.2.1, a.2.2.congr (k 54 (n 54 (by decide) (by decide)))⟩
  · rw [y]; decide
  · rw [y]; decide
def QTI (mC mM : xM) (as : List xV) (h m : xH) : Prop := ∃ r : Int, inI r ∧ cI wdC 30 mC (.inr (.inr 0) :: as) h (fun n h' => n = r ∧ keepT h h') ∧ cI wdM 30 mM (.inr (.inr 0) :: as) m (fun n m' => n = r ∧ keepM m m')
def QTL (mC mM : xM) (as : List xV) (h m : xH) : Prop := ∃ r : Int, inL r ∧ cL wdC 30 mC (.inr (.inr 0) :: as) h (fun n h' => n = r ∧ keepT h h') ∧ cL wdM 30 mM (.inr (.inr 0) :: as) m (fun n m' => n = r ∧ keepM m m')
theorem AIT_of {mC mM : xM} {as : List xV} (H : ∀ h m, Rel h m → QTI mC mM as h m) : AI mC mM as := by
  intro h m hR
  obtain ⟨r, h1, h2, h3⟩ := H h m hR
  exact ⟨r, keepT h, keepM m, h1, h2, h3, fun h' m' a b => hR.keepT a b⟩
theorem ALT_of {mC mM : xM} {as : List xV} (H : ∀ h m, Rel h m → QTL mC mM as h m) : AL mC mM as := by
  intro h m hR
  obtain ⟨r, h1, h2, h3⟩ := H h m hR
  exact ⟨r, keepT h, keepM m, h1, h2, h3, fun h' m' a b => hR.keepT a b⟩
/-- both sides at once -/
theorem ord_set {h m : xH} (hR : Rel h m) : ((∀ T F : xH → Prop, (∀ h', keepT h h' → F h') → cB wdC 29 mX7_think [.inr (.inr 0)] h T F) ∧ (∀ T F : xH → Prop, (∀ m', keepM m m' → F m') → cB wdM 29 mX8_areFew [.inr (.inr 0)] m T F)) ∨
    ∃ (n : Nat) (L SL : Int → Int) (B : Nat → Nat) (b : Bool), TH n B SL ∧ (∀ j : Nat, j < n → 0 ≤ L j ∧ L j < 30) ∧
      (∀ T F : xH → Prop, (∀ h', keepT h h' → CT h' n L SL B → ∀ c σ, MK h' n B c σ → h' 32 1 = b2i b → h' 6 6 = m 1 3 → T h') → cB wdC 29 mX7_think [.inr (.inr 0)] h T F) ∧
      (∀ T F : xH → Prop, (∀ m', (∀ Q : xH → Prop, (∀ m2, keepM m m2 → m2 1 = m 1 → MT m2 n L SL B → HiT m2 B SL n 0 b → Q m2) → cV wdM 29 mX8_goesBack [.inr (.inr 0)] m' Q) → T m') → cB wdM 29 mX8_areFew [.inr (.inr 0)] m T F) := by
  obtain ⟨⟨hW, -⟩, hP, hB, -⟩ := id hR
  obtain ⟨w1, w2, w3, w4, w5, w6, w7, w8⟩ := id hW.1
  obtain ⟨f4, f5, f7, hN⟩ := need_ex hW.1
  obtain ⟨L, hL⟩ := uL_ex (m 1) (m 1 1).toNat
  have hG : RG h := hR.2.2.2.2.2.2.2
  have kc : ∀ {h'}, kp [27, 28, 29, 30, 31, 32, 33, 34, 35, 36, 54] h h' → RG h' → keepT h h' := fun k g => ⟨kp_mono k (by decide), by rw [k 44 (by decide)], g⟩
  have km : ∀ {m'}, kp [0, 4, 5, 7, 8] m m' → (∀ i, i ≠ 10 → m' 0 i = m 0 i) → keepM m m' := fun k e => ⟨kp_mono k (by decide), e 3 (by decide), e 22 (by decide), e 23 (by decide)⟩
  by_cases c : 12 < uc (m 1) (m 1 1).toNat
  · refine Or.inl ⟨fun T F hF => ?_, fun T F hF => ?_⟩
    · exact C_think (by omega) hW hP hB hN hG hL (fun _ h' k g => hF h' (kc k g)) (fun z => absurd z (by omega))
    · exact M_areFew (by omega) hW hN hL (fun _ m' k e => hF m' (km k e)) (fun z => absurd z (by omega))
  · have lin := L_in hL
    have hT : TH (uc (m 1) (m 1 1).toNat) (Bx f5 L (uc (m 1) (m 1 1).toNat)) (fun j => m 1 (35 + L j)) := TH_of hW.1 hN (by omega) lin (L_inj hL)
    refine Or.inr ⟨uc (m 1) (m 1 1).toNat, L, fun j => m 1 (35 + L j), Bx f5 L (uc (m 1) (m 1 1).toNat), lwp (m 1) (m 1 1).toNat, hT, fun j hj => by have := lin j hj; omega, fun T F hF => ?_, fun T F hF => ?_⟩
    · exact C_think (by omega) hW hP hB hN hG hL (fun z => absurd z c) (fun _ h' k c1 cn σ m1 e => hF h' (kc k m1.1.2.2) c1 cn σ m1 e (by rw [k 6 (by decide)]; exact hB.2.2.2.1))
    · refine M_areFew (by omega) hW hN hL (fun z => absurd z c) (fun _ m' k e c1 => hF m' (fun Q hQ => ?_))
      have em : m' 1 = m 1 := k 1 (by decide)
      refine M_goesBack (by omega) hT c1 (by rw [em]; exact hW.1) (fun j hj => by rw [em]; exact (lin j hj).2) (by rw [em]; exact lwp_L hL) (fun m2 k2 hH => ?_)
      exact hQ m2 ⟨kp_tr (kp_mono k (by decide)) (kp_mono k2 (by decide)), by rw [k2 0 (by decide)]; exact e 3 (by decide), by rw [k2 0 (by decide)]; exact e 22 (by decide), by rw [k2 0 (by decide)]; exact e 23 (by decide)⟩ (by rw [k2 1 (by decide)]; exact em) (c1.keep k2 (by decide)) hH
/-- how many orders there are -/
def oN (B : Nat → Nat) (n : Nat) (b : Bool) : Int := if b then WY B n 0 else 0
theorem oN_in {n : Nat} {B : Nat → Nat} {SL : Int → Int} {b : Bool} (hT : TH n B SL) : 0 ≤ oN B n b ∧ oN B n b ≤ 8916100448256 ∧ (oN B n b = 0 ↔ b = false) := by
  have := WY_b hT (Nat.two_pow_pos n)
  unfold oN
  cases b
  · simp
  · simp; omega
theorem HiT.zero {m : xH} {n : Nat} {B : Nat → Nat} {SL : Int → Int} {b : Bool} (h : HiT m B SL n 0 b) : m 6 0 = oN B n b := by
  unfold oN
  cases b with
  | true => exact (h.1 rfl 0 (by omega) (Nat.two_pow_pos n)).1
  | false => exact h.2 rfl 0 (by omega) (Nat.two_pow_pos n)
theorem C_ordersN {d n cn : Nat} {σ : Nat → Nat} {B : Nat → Nat} {L SL : Int → Int} {b : Bool} {h : xH} {Q : Int → xH → Prop} (hd : 1 ≤ d) (hT : TH n B SL) (c : CT h n L SL B) (hM : MK h n B cn σ) (e : h 32 1 = b2i b) (hq : ∀ h', kp [37] h h' → (b = true → WT h' n B cn σ 0) → Q (oN B n b) h') : cL wdC d mX6_lawfulOrders [.inr (.inr 32)] h Q := by
  cases b with
  | true => exact C_lawfulOrders hd hT c hM e (fun h' k w => hq h' k (fun _ => w))
  | false => exact C_lawfulOrders0 e (hq h (kp_rf _ _) (fun z => by cases z))
theorem Q_orders {h m : xH} (hR : Rel h m) : QTL mX7_orders mX8_orders [] h m := by
  rcases ord_set hR with ⟨hC, hM⟩ | ⟨n, L, SL, B, b, hT, lin, hC, hM⟩
  · refine ⟨-3, inL_s (by omega) (by omega), ?_, ?_⟩
    · exact sg_X7_orders_0 (by omega) (hC _ _ (fun h' k => ⟨rfl, k⟩))
    · exact sg_X8_orders_0 (by omega) (hM _ _ (fun m' k => ⟨rfl, k⟩))
  · have ob := oN_in (b := b) hT
    refine ⟨oN B n b, by unfold inL; omega, ?_, ?_⟩
    · refine sg_X7_orders_0 (by omega) (hC _ _ (fun h' k c1 cn σ m1 e _ => C_ordersN (by omega) hT c1 m1 e (fun h2 k2 _ => ⟨rfl, k.more k2⟩)))
    · refine sg_X8_orders_0 (by omega) (hM _ _ (fun m' g => g _ (fun m2 k2 _ _ hH => ⟨hH.zero, k2⟩)))
theorem Q_order (k i : Int) (hk : inL k) (hi : inI i) {h m : xH} (hR : Rel h m) : QTI mX7_order mX8_order [.inr (.inl k), .inl i] h m := by
  rcases ord_set hR with ⟨hC, hM⟩ | ⟨n, L, SL, B, b, hT, lin, hC, hM⟩
  · refine ⟨-3, inI_s (by omega) (by omega), ?_, ?_⟩
    · exact sg_X7_order_0 (by omega) (hC _ _ (fun h' k => ⟨rfl, k⟩))
    · exact sg_X8_order_0 (by omega) (hM _ _ (fun m' k => ⟨rfl, k⟩))
  · have ob := oN_in (b := b) hT
    have t1 := hT.1
    have lf : ∀ r : Int, inI r → (¬ ((0 ≤ i ∧ i < n) ∧ 0 ≤ k ∧ k < oN B n b) → r = -1) → ((0 ≤ i ∧ i < n) → 0 ≤ k → k < oN B n b → b = true ∧ Od B n L (i.toNat + 1) 0 k (-1) r) → QTI mX7_order mX8_order [.inr (.inl k), .inl i] h m := by
      intro r ir a0 a1
      refine ⟨r, ir, ?_, ?_⟩
      · refine sg_X7_order_0 (by omega) (hC _ _ (fun h' kk c1 cn σ m1 e _ => ?_))
        rw [c1.1]
        refine ⟨hi, fun z => ⟨(a0 (by omega)).symm, kk⟩, fun z => ⟨⟨hi, inI_s (by omega) (by omega)⟩, fun z1 => ⟨hk, fun z2 => ⟨(a0 (by omega)).symm, kk⟩, fun z2 => C_ordersN (by omega) hT c1 m1 e (fun h2 k2 hw => ?_)⟩, fun z1 => ⟨(a0 (by omega)).symm, kk⟩⟩⟩
        have kk2 : keepT h h2 := kk.more k2
        refine ⟨⟨hk, by unfold inL; omega⟩, fun z3 => ?_, fun z3 => ⟨(a0 (by omega)).symm, kk2⟩⟩
        obtain ⟨eb, od⟩ := a1 ⟨z, z1⟩ z2 z3
        have ew : oN B n b = WY B n 0 := by unfold oN; rw [eb]; rfl
        have m2 : MK h2 n B cn σ := m1.keep k2 (by decide)
        exact C_pinOfOrder (by omega) hT (c1.keep k2 (by decide)) m2 (hw eb) ⟨z, z1⟩ ⟨z2, by omega⟩ od ⟨rfl, kk2⟩
      · refine sg_X8_order_0 (by omega) (hM _ _ (fun m' g => g _ (fun m2 k2 em c2 hH => ?_)))
        rw [hH.zero, c2.1]
        refine ⟨hk, fun z => ⟨(a0 (by omega)).symm, k2⟩, fun z => ⟨hi, fun z1 => ⟨(a0 (by omega)).symm, k2⟩, fun z1 => ⟨⟨hk, by unfold inL; omega⟩, fun z2 => ⟨(a0 (by omega)).symm, k2⟩, fun z2 => ⟨⟨hi, inI_s (by omega) (by omega)⟩, fun z3 => ?_, fun z3 => ⟨(a0 (by omega)).symm, k2⟩⟩⟩⟩⟩
        obtain ⟨eb, od⟩ := a1 ⟨z1, z3⟩ z z2
        have ew : oN B n b = WY B n 0 := by unfold oN; rw [eb]; rfl
        rw [eb] at hH
        exact M_orderL (by omega) hT c2 hH ⟨z1, z3⟩ ⟨z, by omega⟩ od ⟨rfl, k2⟩
    by_cases c : (0 ≤ i ∧ i < n) ∧ 0 ≤ k ∧ k < oN B n b
    · have eb : b = true := by
        cases hh : b with
        | true => rfl
        | false => have := ob.2.2.mpr hh; omega
      have ew : oN B n b = WY B n 0 := by unfold oN; rw [eb]; rfl
      obtain ⟨a, ha⟩ := Od_ex (n := n) (B := B) (L := L) (i.toNat + 1) 0 k (-1) (by rw [zc_zero]; omega) c.2.1 (by omega)
      have ia : inI a := by
        rcases Od_in _ _ _ _ _ ha with z | ⟨j, hj, z⟩
        · rw [z]; exact inI_s (by omega) (by omega)
        · have := lin j hj
          exact inI_s (by omega) (by omega)
      exact lf a ia (fun z => absurd c z) (fun _ _ _ => ⟨eb, ha⟩)
    · exact lf (-1) (inI_s (by omega) (by omega)) (fun _ => rfl) (fun z1 z2 z3 => absurd ⟨z1, z2, z3⟩ c)
theorem Q_travel {h m : xH} (hR : Rel h m) : QTI mX7_travel mX8_travel [] h m := by
  have v1 := hR.1.1.2.1
  have w1 := hR.1.1.1.1
  rcases ord_set hR with ⟨hC, hM⟩ | ⟨n, L, SL, B, b, hT, lin, hC, hM⟩
  · refine ⟨-3, inI_s (by omega) (by omega), ?_, ?_⟩
    · exact sg_X7_travel_0 (by omega) (hC _ _ (fun h' k => ⟨rfl, k⟩))
    · exact sg_X8_travel_0 (by omega) (hM _ _ (fun m' k => ⟨rfl, k⟩))
  · have ob := oN_in (b := b) hT
    have p0 := Nat.two_pow_pos n
    have lb := LT_b hT p0 (f := m 1 3) (by omega)
    have lf : ∀ r : Int, inI r → (b = true → r = LT B SL n 0 (m 1 3)) → (b = false → r = -5) → QTI mX7_travel mX8_travel [] h m := by
      intro r ir a1 a0
      refine ⟨r, ir, ?_, ?_⟩
      · refine sg_X7_travel_0 (by omega) (hC _ _ (fun h' kk c1 cn σ m1 e e6 => ?_))
        rw [e, e6]
        refine ⟨b2i_in b, fun z => ?_, fun z => ⟨(a0 ?_).symm, kk⟩⟩
        · have eb : b = true := by
            cases hh : b with
            | true => rfl
            | false => rw [hh] at z; exact absurd rfl z
          refine C_leastTravel (by omega) hT c1 m1 (by omega) (fun h2 k2 _ => ⟨(a1 eb).symm, kk.more k2⟩)
        · cases hh : b with
          | false => rfl
          | true => rw [hh] at z; exact absurd z (by decide)
      · refine sg_X8_travel_0 (by omega) (hM _ _ (fun m' g => g _ (fun m2 k2 em c2 hH => ?_)))
        rw [hH.zero, em]
        refine ⟨by unfold inL; omega, fun z => ?_, fun z => ⟨(a0 (ob.2.2.mp z)).symm, k2⟩⟩
        have eb : b = true := by
          cases hh : b with
          | true => rfl
          | false => exact absurd (ob.2.2.mpr hh) z
        rw [eb] at hH
        exact M_leastFrom (S := 0) (by omega) hT c2 hH p0 (by omega) ⟨(a1 eb).symm, k2⟩
    cases hh : b with
    | true => exact lf (LT B SL n 0 (m 1 3)) (inI_s (by omega) (by omega)) (fun _ => rfl) (fun z => by rw [hh] at z; cases z)
    | false => exact lf (-5) (inI_s (by omega) (by omega)) (fun z => by rw [hh] at z; cases z) (fun _ => rfl)
theorem Q_along (i : Int) (hi : inI i) {h m : xH} (hR : Rel h m) : QTI mX7_along mX8_along [.inl i] h m := by
  have v1 := hR.1.1.2.1
  have w1 := hR.1.1.1.1
  rcases ord_set hR with ⟨hC, hM⟩ | ⟨n, L, SL, B, b, hT, lin, hC, hM⟩
  · refine ⟨-3, inI_s (by omega) (by omega), ?_, ?_⟩
    · exact sg_X7_along_0 (by omega) (hC _ _ (fun h' k => ⟨rfl, k⟩))
    · exact sg_X8_along_0 (by omega) (hM _ _ (fun m' k => ⟨rfl, k⟩))
  · have ob := oN_in (b := b) hT
    have t1 := hT.1
    have p0 := Nat.two_pow_pos n
    have lf : ∀ r : Int, inI r → (b = false → r = -3) → (b = true → ¬ (0 ≤ i ∧ i < n) → r = -1) → (b = true → 0 ≤ i → i < n → Al B SL n L (i.toNat + 1) 0 (m 1 3) (-1) r) → QTI mX7_along mX8_along [.inl i] h m := by
      intro r ir a0 a1 a2
      refine ⟨r, ir, ?_, ?_⟩
      · refine sg_X7_along_0 (by omega) (hC _ _ (fun h' kk c1 cn σ m1 e e6 => ?_))
        rw [e, e6, c1.1]
        refine ⟨b2i_in b, fun z => ?_, fun z => ⟨(a0 ?_).symm, kk⟩⟩
        · have eb : b = true := by
            cases hh : b with
            | true => rfl
            | false => rw [hh] at z; exact absurd rfl z
          refine ⟨hi, fun z1 => ⟨(a1 eb (by omega)).symm, kk⟩, fun z1 => ⟨⟨hi, inI_s (by omega) (by omega)⟩, fun z2 => C_pinOfLeast (by omega) hT c1 m1 (by omega) ⟨z1, z2⟩ (a2 eb z1 z2) (fun h2 k2 => ⟨rfl, kk.more k2⟩), fun z2 => ⟨(a1 eb (by omega)).symm, kk⟩⟩⟩
        · cases hh : b with
          | false => rfl
          | true => rw [hh] at z; exact absurd z (by decide)
      · refine sg_X8_along_0 (by omega) (hM _ _ (fun m' g => g _ (fun m2 k2 em c2 hH => ?_)))
        rw [hH.zero, c2.1]
        refine ⟨by unfold inL; omega, fun z => ?_, fun z => ⟨(a0 (ob.2.2.mp z)).symm, k2⟩⟩
        have eb : b = true := by
          cases hh : b with
          | true => rfl
          | false => exact absurd (ob.2.2.mpr hh) z
        rw [eb] at hH
        refine ⟨hi, inI_s (by omega) (by omega), M_isIn (inL_I hi) (by unfold inL; omega) (inL_s (by omega) (by omega)) (fun z1 => ?_) (fun z1 => ⟨(a1 eb (by omega)).symm, k2⟩)⟩
        rw [em]
        exact M_alongL (by omega) hT c2 hH ⟨z1.1, by omega⟩ (by omega) (a2 eb z1.1 (by omega)) ⟨rfl, k2⟩
    cases hh : b with
    | true =>
      by_cases c : 0 ≤ i ∧ i < n
      · obtain ⟨a, ha⟩ := Al_ex (L := L) hT (i.toNat + 1) 0 (m 1 3) (-1) (by rw [zc_zero]; omega) p0 (by omega)
        have ia : inI a := by
          rcases Al_in _ _ _ _ _ ha with z | ⟨j, hj, z⟩
          · rw [z]; exact inI_s (by omega) (by omega)
          · have := lin j hj
            exact inI_s (by omega) (by omega)
        exact lf a ia (fun z => by rw [hh] at z; cases z) (fun _ z => absurd c z) (fun _ _ _ => ha)
      · exact lf (-1) (inI_s (by omega) (by omega)) (fun z => by rw [hh] at z; cases z) (fun _ _ => rfl) (fun _ z1 z2 => absurd ⟨z1, z2⟩ c)
    | false => exact lf (-3) (inI_s (by omega) (by omega)) (fun _ => rfl) (fun z => by rw [hh] at z; cases z) (fun z => by rw [hh] at z; cases z)
