/-! work (4): API workAll -/
def nxr (s f5 : Int → Int) : Nat → Int
  | 0 => -1
  | q + 1 => if rdy s f5 q = true ∧ (nxr s f5 q < 0 ∨ 100 * s (5 + q) + s (35 + q) < 100 * s (5 + nxr s f5 q) + s (35 + nxr s f5 q)) then (q : Int) else nxr s f5 q
def nx (s f5 : Int → Int) : Int := nxr s f5 (s 1).toNat
theorem nxr_ok (s f5 : Int → Int) : ∀ n : Nat, (-1 ≤ nxr s f5 n ∧ nxr s f5 n < n) ∧ (0 ≤ nxr s f5 n → rdy s f5 (nxr s f5 n) = true) ∧ ((∃ q : Nat, q < n ∧ rdy s f5 q = true) → 0 ≤ nxr s f5 n) := by
  intro n
  induction n with
  | zero => exact ⟨by simp [nxr], by simp [nxr], fun ⟨q, h, _⟩ => by omega⟩
  | succ n ih =>
    obtain ⟨i1, i2, i3⟩ := ih
    unfold nxr
    split
    · rename_i h
      exact ⟨by omega, fun _ => h.1, fun _ => by omega⟩
    · rename_i h
      refine ⟨by omega, i2, fun ⟨q, hq, hr⟩ => ?_⟩
      rcases (show q < n ∨ q = n by omega) with z | z
      · exact i3 ⟨q, z, hr⟩
      · rw [z] at hr
        have : ¬ (nxr s f5 n < 0 ∨ 100 * s (5 + n) + s (35 + n) < 100 * s (5 + nxr s f5 n) + s (35 + nxr s f5 n)) := fun y => h ⟨hr, y⟩
        omega
theorem nxr_congr {s f g : Int → Int} : ∀ n : Nat, (∀ q : Nat, q < n → f q = g q) → nxr s f n = nxr s g n := by
  intro n
  induction n with
  | zero => intro _; rfl
  | succ n ih =>
    intro h
    unfold nxr
    rw [ih (fun q hq => h q (by omega)), rdy_congr (h n (by omega))]
theorem rdy_z {s f5 : Int → Int} {p : Int} (h : rdy s f5 p = true) : s (95 + p) = 0 := by
  unfold rdy at h
  rw [Bool.and_eq_true] at h
  exact of_decide_eq_true h.1
def wal (f5 : Int → Int) : Nat → (Int → Int) → Nat × (Int → Int)
  | 0, s => (0, s)
  | k + 1, s => if nx s f5 < 0 then (0, s) else ((wal f5 k (wk s (nx s f5))).1 + 1, (wal f5 k (wk s (nx s f5))).2)
theorem nx_in {s f5 : Int → Int} (hn : 0 ≤ s 1) : (-1 ≤ nx s f5 ∧ nx s f5 < s 1) ∧ (0 ≤ nx s f5 → rdy s f5 (nx s f5) = true) := by
  obtain ⟨a, b, c⟩ := nxr_ok s f5 (s 1).toNat
  exact ⟨⟨a.1, by unfold nx; omega⟩, b⟩
theorem wal_WF {f5 : Int → Int} : ∀ (k : Nat) (s : Int → Int), WF s → WF (wal f5 k s).2 ∧ (wal f5 k s).1 ≤ k := by
  intro k
  induction k with
  | zero => intro s h; exact ⟨h, Nat.le_refl _⟩
  | succ k ih =>
    intro s h
    have a := nx_in (s := s) (f5 := f5) h.1.2.1.1
    unfold wal
    split
    · exact ⟨h, by omega⟩
    · rename_i z
      obtain ⟨hW', -⟩ := WF_wk h (p := nx s f5) (by omega) a.1.2 (rdy_z (a.2 (by omega)))
      have := ih _ hW'
      exact ⟨this.1, by have := this.2; omega⟩
theorem C_isAbove {d : Nat} {p q : Int} {h : xH} {s : Int → Int} {T F : xH → Prop} (hW : WFp s) (hP : RPat h 1 2 3 4 5 s) (hp : 0 ≤ p ∧ p < s 1) (hq : 0 ≤ q ∧ q < s 1) (ht : 100 * s (5 + p) + s (35 + p) < 100 * s (5 + q) + s (35 + q) → T h) (hf : ¬ 100 * s (5 + p) + s (35 + p) < 100 * s (5 + q) + s (35 + q) → F h) : cB wdC d mX3_isAbove [.inr (.inr 1), .inl p, .inl q] h T F := by
  obtain ⟨w1, w2, w3, w4, w5, w6, w7, w8⟩ := id hW
  have a := w4 p hp.1 hp.2
  have b := w4 q hq.1 hq.2
  have c := hP.2.2.2.1 p hp.1 hp.2
  have e := hP.2.2.2.1 q hq.1 hq.2
  refine sg_X3_isAbove_0 ?_
  rw [c.1, c.2.1, e.1, e.2.1]
  exact ⟨by omega, by omega, ⟨inI_s (by omega) (by omega), inI_s (by omega) (by omega)⟩, fun z => Or.inl ⟨rfl, ht (by omega)⟩, fun z => ⟨by omega, by omega, ⟨inI_s (by omega) (by omega), inI_s (by omega) (by omega)⟩, fun z2 => Or.inr ⟨rfl, hf (by omega)⟩, fun z2 => ⟨by omega, by omega, ⟨inI_s (by omega) (by omega), inI_s (by omega) (by omega)⟩, fun z3 => Or.inr ⟨rfl, hf (by omega)⟩, fun z3 => Or.inl ⟨rfl, ht (by omega)⟩⟩⟩⟩
theorem C_uppermost {d : Nat} {h : xH} {s f5 : Int → Int} {Q : Int → xH → Prop} (hd : 2 ≤ d) (hW : WFp s) (hP : RPat h 1 2 3 4 5 s) (hq : Q (nx s f5) h) : cI wdC d mX3_uppermost [.inr (.inr 1), .inr (.inl (bts (rdy s f5) (s 1).toNat))] h Q := by
  obtain ⟨w1, w2, w3, w4, w5, w6, w7, w8⟩ := id hW
  have e2 := hP.2.1
  have lp : ∀ t : Int, t ≤ s 1 → 0 ≤ t → gI wdC d mX3_uppermost 5 [some (.inr (.inr 1)), some (.inr (.inl (bts (rdy s f5) (s 1).toNat))), none, some (.inl (nxr s f5 t.toNat)), some (.inl t)] h Q := by
    refine dn ?_ ?_
    · intro _
      exact sg_X3_uppermost_5 (by omega) ⟨⟨inI_s (by omega) (by omega), inI_s (by omega) (by omega)⟩, fun _ => hq, fun z => absurd z (by omega)⟩
    · intro t ht ih t0
      have e : (t + 1).toNat = t.toNat + 1 := by omega
      have et : ((t.toNat : Nat) : Int) = t := by omega
      have ih := ih (by omega)
      obtain ⟨c1, c2, c3⟩ := nxr_ok s f5 t.toNat
      rw [e] at ih
      simp only [nxr, et] at ih
      have bb : (bts (rdy s f5) (s 1).toNat).testBit t.toNat = rdy s f5 t := by rw [bts_bit, decide_eq_true (by omega), Bool.true_and, et]
      refine sg_X3_uppermost_5 (by omega) ⟨⟨inI_s (by omega) (by omega), inI_s (by omega) (by omega)⟩, fun z => absurd z (by omega), fun _ => C_hasPin (by omega) (bts_62 _ (by omega)) (by omega) (fun b => ⟨inI_s (by omega) (by omega), fun z => ?_, fun z => C_isAbove hW hP ⟨t0, ht⟩ (by omega) (fun y => ?_) (fun y => ?_)⟩) (fun b => ?_)⟩
      · rw [bb] at b; rw [if_pos ⟨b, Or.inl z⟩] at ih; exact ih
      · rw [bb] at b; rw [if_pos ⟨b, Or.inr y⟩] at ih; exact ih
      · rw [if_neg (fun w => by rcases w.2 with w | w <;> omega)] at ih; exact ih
      · rw [bb] at b; rw [if_neg (fun w => by rw [b] at w; exact absurd w.1 (by decide))] at ih; exact ih
  exact sg_X3_uppermost_0 (lp 0 (by omega) (by omega))
theorem C_workAll {h : xH} {f4 f5 f7 : Int → Int} {Q : Int → xH → Prop} : ∀ (k : Nat) (i x : Int) (s : Int → Int) (h1 : xH), i + k = 30 → 0 ≤ i → WF s → (∀ q, 0 ≤ q → q < s 1 → NeedAt s f4 f5 f7 q) → kp [6, 7, 8, 9, 10, 27, 28, 29, 30, 31] h h1 → RPat h1 1 2 3 4 5 s → RBen h1 6 7 8 9 10 s →
    (∀ h', kp [6, 7, 8, 9, 10, 27, 28, 29, 30, 31] h h' → RPat h' 1 2 3 4 5 (wal f5 k s).2 → RBen h' 6 7 8 9 10 (wal f5 k s).2 → Q (x + (wal f5 k s).1) h') → gI wdC 30 mX7_workAll 4 [some (.inr (.inr 0)), some (.inl x), some (.inl i), none] h1 Q := by
  intro k
  induction k with
  | zero =>
    intro i x s h1 hi h0 hW hN kk hP hB hq
    have := hq h1 kk hP hB
    rw [show x + (((wal f5 0 s).1 : Nat) : Int) = x by unfold wal; exact Int.add_zero x] at this
    exact sg_X7_workAll_4 (by omega) ⟨inI_s (by omega) (by omega), fun _ => this, fun z => absurd z (by omega)⟩
  | succ k ih =>
    intro i x s h1 hi h0 hW hN kk hP hB hq
    have w2 := hW.1.2.1
    refine sg_X7_workAll_4 (by omega) ⟨inI_s (by omega) (by omega), fun z => absurd z (by omega), fun _ => C_readyPins (by omega) hW hP hB (fun g kg nN => ?_)⟩
    have un := need_uniq hW.1 nN hN
    have en : nx s (g 28) = nx s f5 := nxr_congr _ (fun q hq => (un q (by omega) (by omega)).2.1)
    have a := nx_in (s := s) (f5 := f5) w2.1
    have hPg := hP.congr (kg 1 (by decide)) (kg 2 (by decide)) (kg 3 (by decide)) (kg 4 (by decide)) (kg 5 (by decide))
    have hBg := hB.congr (kg 6 (by decide)) (kg 7 (by decide)) (kg 8 (by decide)) (kg 9 (by decide)) (kg 10 (by decide))
    refine C_uppermost (by omega) hW.1 hPg ?_
    rw [en]
    refine ⟨inI_s (by omega) (by omega), fun z => ?_, fun z => ?_⟩
    · have hz := rdy_z (a.2 z)
      obtain ⟨hW', lo, -⟩ := WF_wk hW z a.1.2 hz
      refine C_workOne (by omega) hW hPg hBg z a.1.2 hz (fun h2 k2 gP gB => ih (i + 1) (x + 1) _ h2 (by omega) (by omega) hW' (fun q a1 b1 => ?_) (kp_tr kk (kp_tr (kp_mono kg (by decide)) (kp_mono k2 (by decide)))) gP gB (fun h' k' p' b' => ?_))
      · have e1 := lo 1 (by omega) (by omega) (by omega) (by omega)
        rw [e1] at b1
        exact NeedAt_ag w2 (fun j j0 j1 => lo j (by omega) (by omega) (by omega) (by omega)) a1 b1 (hN q a1 b1)
      · have e1 : (wal f5 (k + 1) s) = ((wal f5 k (wk s (nx s f5))).1 + 1, (wal f5 k (wk s (nx s f5))).2) := by
          conv => lhs; unfold wal
          rw [if_neg (by omega)]
        rw [e1] at hq
        have := hq h' k' p' b'
        rw [show x + 1 + (((wal f5 k (wk s (nx s f5))).1 : Nat) : Int) = x + ((((wal f5 k (wk s (nx s f5))).1 + 1 : Nat)) : Int) by omega]
        exact this
    · have e1 : (wal f5 (k + 1) s) = (0, s) := by
        conv => lhs; unfold wal
        rw [if_pos z]
      rw [e1] at hq
      have := hq g (kp_tr kk (kp_mono kg (by decide))) hPg hBg
      rw [show x + (((0 : Nat)) : Int) = x from Int.add_zero x] at this
      exact this
theorem M_workAll {m : xH} {Q : Int → xH → Prop} : ∀ (k : Nat) (x : Int) (h1 : xH), 30 - h1 1 4 ≤ k → WF (h1 1) → (∀ q, 0 ≤ q → q < h1 1 1 → NeedAt (h1 1) (h1 4) (h1 5) (h1 7) q) → kp [1, 4, 5, 7] m h1 →
    (∀ h', kp [1, 4, 5, 7] m h' → h' 1 = (wal (h1 5) k (h1 1)).2 → Q (x + (wal (h1 5) k (h1 1)).1) h') → gI wdM 30 mX8_workAll 6 [some (.inr (.inr 0)), some (.inl x), none, none] h1 Q := by
  intro k
  induction k with
  | zero =>
    intro x h1 hk hW hN kk hq
    have w2 := hW.1.2.1
    have v2 := hW.2.2.1
    have a := nx_in (s := h1 1) (f5 := h1 5) w2.1
    have q0 := hq h1 kk rfl
    rw [show x + (((wal (h1 5) 0 (h1 1)).1 : Nat) : Int) = x by unfold wal; exact Int.add_zero x] at q0
    have lp : ∀ t : Int, t ≤ h1 1 1 → 0 ≤ t → gI wdM 30 mX8_workAll 10 [some (.inr (.inr 0)), some (.inl x), some (.inl (-1)), some (.inl t)] h1 Q := by
      refine dn ?_ ?_
      · intro _
        exact sg_X8_workAll_10 (by omega) ⟨⟨inI_s (by omega) (by omega), inI_s (by omega) (by omega)⟩, fun _ => ⟨inI_s (by omega) (by omega), by omega, fun _ => q0⟩, fun z => absurd z (by omega)⟩
      · intro t ht ih t0
        refine sg_X8_workAll_10 (by omega) ⟨⟨inI_s (by omega) (by omega), inI_s (by omega) (by omega)⟩, fun z => absurd z (by omega), fun _ => M_isReady (by omega) hW hN ⟨t0, ht⟩ (fun b => ?_) (fun b => ih (by omega))⟩
        have := wc_lt hW t0 ht (rdy_z b)
        omega
    exact sg_X8_workAll_6 (lp 0 (by omega) (by omega))
  | succ k ih =>
    intro x h1 hk hW hN kk hq
    obtain ⟨w1, w2, w3, w4, w5, w6, w7, w8⟩ := id hW.1
    have v2 := hW.2.2.1
    have a := nx_in (s := h1 1) (f5 := h1 5) w2.1
    have lp : ∀ t : Int, t ≤ h1 1 1 → 0 ≤ t → gI wdM 30 mX8_workAll 10 [some (.inr (.inr 0)), some (.inl x), some (.inl (nxr (h1 1) (h1 5) t.toNat)), some (.inl t)] h1 Q := by
      refine dn ?_ ?_
      · intro _
        refine sg_X8_workAll_10 (by omega) ⟨⟨inI_s (by omega) (by omega), inI_s (by omega) (by omega)⟩, fun _ => ⟨inI_s (show _ ≤ nx (h1 1) (h1 5) by omega) (show nx (h1 1) (h1 5) ≤ _ by omega), fun z => ?_, fun z => ?_⟩, fun z => absurd z (by omega)⟩
        · have z : 0 ≤ nx (h1 1) (h1 5) := z
          have hz := rdy_z (a.2 z)
          have lt := wc_lt hW z a.1.2 hz
          obtain ⟨hW', lo, e3, e4, -⟩ := WF_wk hW z a.1.2 hz
          refine M_works (p := nx (h1 1) (h1 5)) (by omega) hW ⟨z, a.1.2⟩ (by omega) (fun h2 k2 e2 => ih (x + 1) h2 (by rw [e2, e4]; omega) (by rw [e2]; exact hW') (fun q a1 b1 => ?_) (kp_tr kk (kp_mono k2 (by decide))) (fun h' k' p' => ?_))
          · have e1 := lo 1 (by omega) (by omega) (by omega) (by omega)
            rw [e2, e1] at b1
            rw [e2, k2 4 (by decide), k2 5 (by decide), k2 7 (by decide)]
            exact NeedAt_ag w2 (fun j j0 j1 => lo j (by omega) (by omega) (by omega) (by omega)) a1 b1 (hN q a1 b1)
          · have e1 : (wal (h1 5) (k + 1) (h1 1)) = ((wal (h1 5) k (wk (h1 1) (nx (h1 1) (h1 5)))).1 + 1, (wal (h1 5) k (wk (h1 1) (nx (h1 1) (h1 5)))).2) := by
              conv => lhs; unfold wal
              rw [if_neg (by omega)]
            rw [e1] at hq
            rw [e2, k2 5 (by decide)] at p' ⊢
            have := hq h' k' p'
            rw [show x + 1 + (((wal (h1 5) k (wk (h1 1) (nx (h1 1) (h1 5)))).1 : Nat) : Int) = x + ((((wal (h1 5) k (wk (h1 1) (nx (h1 1) (h1 5)))).1 + 1 : Nat)) : Int) by omega]
            exact this
        · have z : nx (h1 1) (h1 5) < 0 := z
          have e1 : (wal (h1 5) (k + 1) (h1 1)) = (0, h1 1) := by
            conv => lhs; unfold wal
            rw [if_pos z]
          rw [e1] at hq
          have := hq h1 kk rfl
          rw [show x + (((0 : Nat)) : Int) = x from Int.add_zero x] at this
          exact this
      · intro t ht ih2 t0
        have e : (t + 1).toNat = t.toNat + 1 := by omega
        have et : ((t.toNat : Nat) : Int) = t := by omega
        have ih2 := ih2 (by omega)
        obtain ⟨c1, c2, c3⟩ := nxr_ok (h1 1) (h1 5) t.toNat
        rw [e] at ih2
        simp only [nxr, et] at ih2
        have b := w4 t t0 ht
        refine sg_X8_workAll_10 (by omega) ⟨⟨inI_s (by omega) (by omega), inI_s (by omega) (by omega)⟩, fun z => absurd z (by omega), fun _ => M_isReady (by omega) hW hN ⟨t0, ht⟩ (fun b => ⟨inI_s (by omega) (by omega), fun z => ?_, fun z => ⟨by omega, by omega, by omega, by omega, ⟨inI_s (by omega) (by omega), ?_⟩, fun y => ?_, fun y => ?_⟩⟩) (fun b => ?_)⟩
        · rw [if_pos ⟨b, Or.inl z⟩] at ih2; exact ih2
        · have := w4 _ z (by omega); exact inI_s (by omega) (by omega)
        · rw [if_neg (fun w => by rcases w.2 with w | w <;> omega)] at ih2; exact ih2
        · rw [if_pos ⟨b, Or.inr y⟩] at ih2; exact ih2
        · rw [if_neg (fun w => by rw [b] at w; exact absurd w.1 (by decide))] at ih2; exact ih2
    exact sg_X8_workAll_6 (lp 0 (by omega) (by omega))
theorem wal_congr {f g : Int → Int} : ∀ (k : Nat) (s : Int → Int), WF s → (∀ q, 0 ≤ q → q < s 1 → f q = g q) → wal f k s = wal g k s := by
  intro k
  induction k with
  | zero => intro s _ _; rfl
  | succ k ih =>
    intro s hW h
    have w2 := hW.1.2.1
    have e : nx s f = nx s g := nxr_congr _ (fun q hq => h q (by omega) (by omega))
    have a := nx_in (s := s) (f5 := g) w2.1
    unfold wal
    rw [e]
    split
    · rfl
    · rename_i z
      obtain ⟨hW', lo, -⟩ := WF_wk hW (p := nx s g) (by omega) a.1.2 (rdy_z (a.2 (by omega)))
      rw [ih _ hW' (fun q a1 b1 => h q a1 (by rw [lo 1 (by omega) (by omega) (by omega) (by omega)] at b1; exact b1))]
theorem A_workAll : AI mX7_workAll mX8_workAll [] := by
  intro h m hR
  obtain ⟨⟨i1, i2, i3, i4, i5, i6, i7, i8, i9⟩, r1, r2, r3, r4, r5, r6, r7⟩ := id hR
  obtain ⟨f4, f5, f7, hf⟩ := need_ex i1.1
  have v2 := i1.2.2.1
  obtain ⟨hW', hle⟩ := wal_WF (f5 := f5) 30 (m 1) i1
  refine ⟨(wal f5 30 (m 1)).1, fun h' => kp [6, 7, 8, 9, 10, 27, 28, 29, 30, 31] h h' ∧ RPat h' 1 2 3 4 5 (wal f5 30 (m 1)).2 ∧ RBen h' 6 7 8 9 10 (wal f5 30 (m 1)).2, fun m' => kp [1, 4, 5, 7] m m' ∧ m' 1 = (wal f5 30 (m 1)).2, inI_s (by omega) (by omega), ?_, ?_, ?_⟩
  · refine sg_X7_workAll_0 (C_workAll 30 0 0 (m 1) h (by omega) (by omega) i1 hf (kp_rf _ _) r1 r2 (fun h' k p b => ⟨by omega, k, p, b⟩))
  · refine sg_X8_workAll_0 (by omega) (M_findsAll (by omega) i1.1 (fun m' km nm => ?_))
    have em : m' 1 = m 1 := km 1 (by decide)
    have un := need_uniq i1.1 nm hf
    have ec := wal_congr (f := m' 5) (g := f5) 30 (m 1) i1 (fun q a b => (un q a b).2.1)
    refine M_workAll 30 0 m' (by rw [em]; omega) (by rw [em]; exact i1) (by rw [em]; exact nm) (kp_mono km (by decide)) (fun h' k e => ?_)
    rw [em, ec] at e ⊢
    exact ⟨by omega, k, e⟩
  · intro h' m' ⟨k1, gP, gB⟩ ⟨k2, em⟩
    have m0 : m' 0 = m 0 := k2 0 (by decide)
    exact hR.patU (kp_mono k1 (by decide)) (kp_mono k2 (by decide)) (by rw [m0]) (by rw [m0]) (by rw [m0]) (by rw [em]; exact hW') (by rw [em]; exact gP) (by rw [em]; exact gB)
