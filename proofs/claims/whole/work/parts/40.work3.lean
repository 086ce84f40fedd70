/-! work (3): API work, undo, workAll -/
theorem xth_W {h : xH} {s : Int → Int} (hW : WF s) (hB : RBen h 6 7 8 9 10 s) : agW (s 0) (xth h) (fun t => s (157 + t)) ∧ thW (s 0) 180 (xth h) := by
  have w1 := hW.1.1
  have w2 := hW.1.2.1
  have v2 := hW.2.2.1
  obtain ⟨n1, n2, n3⟩ := th_now hW
  have x7 : ∀ t, 0 ≤ t → t < 2 * s 0 → xth h t = s (157 + t) := fun t a b => by unfold xth; rw [if_pos (by omega)]; exact (hB.1 t a b).1
  have x8 : ∀ t, 0 ≤ t → t < 2 * s 0 → xth h (24 + t) = s (181 + t) := fun t a b => by unfold xth; rw [if_neg (by omega), show 24 + t - 24 = t by omega]; exact (hB.1 t a b).2
  refine ⟨fun t a b => ⟨x7 t a b, by rw [x8 t a b]; show s (181 + t) = s (157 + (24 + t)); rw [show 157 + (24 + t) = 181 + t by omega]⟩, ⟨fun t a b => by rw [x7 t a b]; exact n1 t a b, fun t u a b c d e => ?_⟩, fun t a b => by rw [x8 t a b]; have := n3 t a b; omega⟩
  rw [x7 t a b, x7 u c d] at e
  exact n2 t u a b c d e
theorem RPat_ag0 {h h' : xH} {s s' : Int → Int} (hW : WFp s) (hR : RPat h 1 2 3 4 5 s) (k : kp [6, 7, 8, 9, 10] h h') (e : ∀ i, 0 ≤ i → (i < 3 ∨ 5 ≤ i ∧ i < 95 ∨ 125 ≤ i ∧ i < 157) → s' i = s i) : RPat h' 1 2 3 4 5 s' := by
  obtain ⟨q1, q2, q3, q4, ⟨f, q5, qf, qb⟩, q6, q7, q8⟩ := id hR
  obtain ⟨w1, w2, w3, w4, w5, w6, w7, w8⟩ := id hW
  refine RPat_of hR hW (e 0 (by omega) (by omega)) (e 2 (by omega) (by omega)) ?_ ?_ ?_ (fun p a b => ?_) ⟨f, ?_, qf, fun j hj => ?_⟩ (fun t a b => e _ (by omega) (by omega)) (k 5 (by decide))
  · rw [k 1 (by decide)]; exact q1
  · rw [k 1 (by decide), e 1 (by omega) (by omega)]; exact q2
  · rw [k 1 (by decide)]; exact q3
  · rw [e 1 (by omega) (by omega)] at b
    rw [k 2 (by decide), k 3 (by decide), k 4 (by decide), e _ (by omega) (by omega), e _ (by omega) (by omega), e _ (by omega) (by omega)]
    exact q4 p a b
  · rw [k 1 (by decide)]; exact q5
  · rw [e _ (by omega) (by omega)]; exact qb j hj
/-- workOne of a pin that isn't done: the class's object is that of wk s p -/
theorem C_workOne {d : Nat} {p : Int} {h : xH} {s : Int → Int} {Q : xH → Prop} (hd : 3 ≤ d) (hW : WF s) (hP : RPat h 1 2 3 4 5 s) (hB : RBen h 6 7 8 9 10 s) (h0 : 0 ≤ p) (h1 : p < s 1) (hz : s (95 + p) = 0)
    (hq : ∀ h', kp [6, 7, 8, 9, 10] h h' → RPat h' 1 2 3 4 5 (wk s p) → RBen h' 6 7 8 9 10 (wk s p) → Q h') : cV wdC d mX7_workOne [.inr (.inr 0), .inl p] h Q := by
  obtain ⟨w1, w2, w3, w4, w5, w6, w7, w8⟩ := id hW.1
  have v2 := hW.2.2.1
  have lt := wc_lt hW h0 h1 hz
  have a := w4 p h0 h1
  have b := hP.2.2.2.1 p h0 h1
  obtain ⟨xa, xw⟩ := xth_W hW hB
  obtain ⟨b1, ⟨D, b2, b3, b4⟩, b5, b6, b7⟩ := id hB
  obtain ⟨hW', lo, e3, e4, ed, et, el, eb, eb1⟩ := WF_wk hW h0 h1 hz
  refine sg_X7_workOne_0 (by omega) ⟨by omega, by omega, ?_⟩
  rw [b.2.1, b.2.2]
  refine C_workPin (by omega) xw (by omega) (by omega) (by omega) (by omega) (fun t _ _ => ⟨rfl, rfl⟩) (by omega) b2 b3 (fun h' k e x2 x3 x6 x9 x10 => ?_)
  have ew := xa.st (sl := s (35 + p)) (st := s (65 + p)) xw (by omega) (by omega)
  refine hq h' k (RPat_ag0 hW.1 hP k (fun i a b => lo i (by omega) (by omega) (by omega) (by omega))) ?_
  unfold RBen
  rw [lo 0 (by omega) (by omega) (by omega) (by omega), e3, e4]
  refine ⟨fun t t0 t1 => ?_, ⟨_, x2, Nat.or_lt_two_pow b3 (two_pow_lt (by omega)), fun q hq9 => ?_⟩, by rw [x3, b5], x6, fun i i0 i1 => ?_⟩
  · have y := e t t0 t1
    have y2 := ew t t0 t1
    have z1 : xth h' t = h' 7 t := by unfold xth; rw [if_pos (by omega)]
    have z2 : xth h' (24 + t) = h' 8 t := by unfold xth; rw [if_neg (by omega), show 24 + t - 24 = t by omega]
    rw [← z1, ← z2, y.1, y.2, y2.1, y2.2, et t t0 (by omega)]
    refine ⟨rfl, ?_⟩
    have := et (24 + t) (by omega) (by omega)
    rw [show 157 + (24 + t) = 181 + t by omega] at this
    exact this.symm
  · unfold bti
    rw [or_bit]
    by_cases z : q = p.toNat
    · rw [show (95 : Int) + q = 95 + p by omega, ed]; simp [z]
    · rw [lo _ (by omega) (by omega) (by omega) (by omega), b4 q hq9]; unfold bti; simp [z]
  · rw [x9, x10, b5]
    by_cases z : i = s 4
    · rw [z, up1_eq, up1_eq, eb, eb1]; exact ⟨rfl, b6⟩
    · rw [up1_ne z, up1_ne z]
      have y := b7 i i0 (by omega)
      have y0 := el i i0 (by omega) 0 (by omega) (by omega)
      have y1 := el i i0 (by omega) 1 (by omega) (by omega)
      rw [show 205 + 50 * i + 0 = 205 + 50 * i by omega] at y0
      rw [show 205 + 50 * i + 1 = 206 + 50 * i by omega] at y1
      rw [y0, y1]; exact y
/-- what a pin needs stays, where pins stay -/
theorem NeedAt_ag {s s' f4 f5 f7 : Int → Int} (hn : 0 ≤ s 1 ∧ s 1 ≤ 30) (e : ∀ i, 0 ≤ i → (i = 1 ∨ 5 ≤ i ∧ i < 65) → s' i = s i) {p : Int} (h0 : 0 ≤ p) (h1 : p < s 1) (h : NeedAt s f4 f5 f7 p) : NeedAt s' f4 f5 f7 p := by
  have ea : ∀ k, ah s' p k = ah s p k := by
    intro k
    unfold ah
    rw [e 1 (by omega) (by omega)]
    have : ∀ n : Nat, n ≤ 30 → ahd s' p k n = ahd s p k n := by
      intro n
      induction n with
      | zero => intro _; rfl
      | succ n ih =>
        intro hl
        have b := (ahd_ok s p k n).1
        unfold ahd
        rw [ih (by omega), e (5 + n) (by omega) (by omega), e (5 + p) (by omega) (by omega), e (35 + n) (by omega) (by omega)]
        by_cases z : ahd s p k n < 0
        · simp only [z, true_or]
        · rw [e (5 + ahd s p k n) (by omega) (by omega)]
    exact this _ (by omega)
  unfold NeedAt at h ⊢
  rw [e (35 + p) (by omega) (by omega), e (5 + p) (by omega) (by omega), ea, ea]
  exact h
theorem A_work (p : Int) (hp : inI p) : AI mX7_work mX8_work [.inl p] := by
  intro h m hR
  obtain ⟨⟨i1, i2, i3, i4, i5, i6, i7, i8, i9⟩, r1, r2, r3, r4, r5, r6, r7⟩ := id hR
  obtain ⟨w1, w2, w3, w4, w5, w6, w7, w8⟩ := id i1.1
  have v2 := i1.2.2.1
  have e1 := r1.2.1
  obtain ⟨f4, f5, f7, hf⟩ := need_ex i1.1
  by_cases c1 : 0 ≤ p ∧ p < m 1 1
  · have bitr : ∀ g : Int → Int, g p = f5 p → (bts (rdy (m 1) g) (m 1 1).toNat).testBit p.toNat = rdy (m 1) f5 p := fun g eg => by
      rw [bts_bit, decide_eq_true (by omega), Bool.true_and, show ((p.toNat : Nat) : Int) = p by omega]
      exact rdy_congr eg
    cases hr : rdy (m 1) f5 p with
    | true =>
      have hz : m 1 (95 + p) = 0 := by
        unfold rdy at hr
        rw [Bool.and_eq_true] at hr
        exact of_decide_eq_true hr.1
      have lt := wc_lt i1 c1.1 c1.2 hz
      obtain ⟨hW', lo, e3, e4, -⟩ := WF_wk i1 c1.1 c1.2 hz
      refine ⟨m 1 4 + 1, fun h' => kp [6, 7, 8, 9, 10, 27, 28, 29, 30, 31] h h' ∧ RPat h' 1 2 3 4 5 (wk (m 1) p) ∧ RBen h' 6 7 8 9 10 (wk (m 1) p), fun m' => kp [1, 4, 5, 7] m m' ∧ m' 1 = wk (m 1) p, inI_s (by omega) (by omega), ?_, ?_, ?_⟩
      · refine sg_X7_work_0 (by omega) (C_isPin hp (by omega) (fun _ => C_readyPins (by omega) i1 r1 r2 (fun g kg hN => ?_)) (fun z => absurd (by omega) z))
        have un := need_uniq i1.1 hN hf
        have hPg := r1.congr (kg 1 (by decide)) (kg 2 (by decide)) (kg 3 (by decide)) (kg 4 (by decide)) (kg 5 (by decide))
        have hBg := r2.congr (kg 6 (by decide)) (kg 7 (by decide)) (kg 8 (by decide)) (kg 9 (by decide)) (kg 10 (by decide))
        refine C_hasPin (by omega) (bts_62 _ (by omega)) (by omega) (fun b => C_workOne (by omega) i1 hPg hBg c1.1 c1.2 hz (fun h' k' gP gB => ⟨?_, kp_tr (kp_mono kg (by decide)) (kp_mono k' (by decide)), gP, gB⟩)) (fun b => ?_)
        · rw [gB.2.2.1, e4]
        · rw [bitr _ (un p c1.1 c1.2).2.1, hr] at b; cases b
      · refine sg_X8_work_0 (by omega) (M_isPin (by omega) hp (by omega) (fun _ => M_findsAll (by omega) i1.1 (fun m' km nm => ?_)) (fun z => absurd c1 z))
        have em : m' 1 = m 1 := km 1 (by decide)
        have un := need_uniq i1.1 nm hf
        refine M_isReady (by omega) (by rw [em]; exact i1) (by rw [em]; exact nm) (by rw [em]; exact c1) (fun b => M_works (by omega) (by rw [em]; exact i1) (by rw [em]; exact c1) (by rw [em]; omega) (fun m2 k2 e2 => ?_)) (fun b => ?_)
        · rw [em] at e2
          exact ⟨by rw [e2, e4], kp_tr (kp_mono km (by decide)) (kp_mono k2 (by decide)), e2⟩
        · rw [em, rdy_congr (un p c1.1 c1.2).2.1, hr] at b; cases b
      · intro h' m' ⟨k1, gP, gB⟩ ⟨k2, em⟩
        have m0 : m' 0 = m 0 := k2 0 (by decide)
        exact hR.patU (kp_mono k1 (by decide)) (kp_mono k2 (by decide)) (by rw [m0]) (by rw [m0]) (by rw [m0]) (by rw [em]; exact hW') (by rw [em]; exact gP) (by rw [em]; exact gB)
    | false =>
      refine A_ref hR ⟨-3, inI_s (by omega) (by omega), ?_, ?_⟩
      · refine sg_X7_work_0 (by omega) (C_isPin hp (by omega) (fun _ => C_readyPins (by omega) i1 r1 r2 (fun g kg hN => ?_)) (fun z => absurd (by omega) z))
        have un := need_uniq i1.1 hN hf
        refine C_hasPin (by omega) (bts_62 _ (by omega)) (by omega) (fun b => ?_) (fun b => ⟨rfl, keepC_need kg⟩)
        rw [bitr _ (un p c1.1 c1.2).2.1, hr] at b; cases b
      · refine sg_X8_work_0 (by omega) (M_isPin (by omega) hp (by omega) (fun _ => M_findsAll (by omega) i1.1 (fun m' km nm => ?_)) (fun z => absurd c1 z))
        have em : m' 1 = m 1 := km 1 (by decide)
        have un := need_uniq i1.1 nm hf
        refine M_isReady (by omega) (by rw [em]; exact i1) (by rw [em]; exact nm) (by rw [em]; exact c1) (fun b => ?_) (fun b => ⟨rfl, keepM_need km⟩)
        rw [em, rdy_congr (un p c1.1 c1.2).2.1, hr] at b; cases b
  · refine A_ref hR ⟨-1, inI_s (by omega) (by omega), ?_, ?_⟩
    · exact sg_X7_work_0 (by omega) (C_isPin hp (by omega) (fun z => absurd (by omega) c1) (fun _ => ⟨rfl, keepC_rf h⟩))
    · exact sg_X8_work_0 (by omega) (M_isPin (by omega) hp (by omega) (fun z => absurd z c1) (fun _ => ⟨rfl, keepM_rf m⟩))
/-- the latest work is undone -/
def ud (s : Int → Int) : Int → Int := fun i =>
  if i = 3 then s (205 + 50 * (s 4 - 1)) else if i = 4 then s 4 - 1 else if i = 95 + s (206 + 50 * (s 4 - 1)) then 0 else if 157 ≤ i ∧ i < 205 then s (207 + 50 * (s 4 - 1) + (i - 157)) else s i
theorem WF_ud {s : Int → Int} (hW : WF s) (h4 : 0 < s 4) : WF (ud s) ∧ (∀ i, i ≠ 3 → i ≠ 4 → i ≠ 95 + s (206 + 50 * (s 4 - 1)) → (i < 157 ∨ 205 ≤ i) → ud s i = s i) ∧ ud s 3 = s (205 + 50 * (s 4 - 1)) ∧ ud s 4 = s 4 - 1 ∧ ud s (95 + s (206 + 50 * (s 4 - 1))) = 0 ∧ (∀ t, 0 ≤ t → t < 48 → ud s (157 + t) = s (207 + 50 * (s 4 - 1) + t)) := by
  obtain ⟨w1, w2, w3, w4, w5, w6, w7, w8⟩ := id hW.1
  obtain ⟨v1, v2, v3, v4, v5, v6, v7, v8, v9⟩ := id hW.2
  have x := v6 (s 4 - 1) (by omega) (by omega)
  generalize hq : s (206 + 50 * (s 4 - 1)) = q at *
  have lo : ∀ i, i ≠ 3 → i ≠ 4 → i ≠ 95 + q → (i < 157 ∨ 205 ≤ i) → ud s i = s i := fun i a b c d => by
    unfold ud
    rw [hq, if_neg a, if_neg b, if_neg c, if_neg (by omega)]
  have e3 : ud s 3 = s (205 + 50 * (s 4 - 1)) := by unfold ud; rw [if_pos rfl]
  have e4 : ud s 4 = s 4 - 1 := by unfold ud; rw [if_neg (by omega), if_pos rfl]
  have ed : ud s (95 + q) = 0 := by unfold ud; rw [hq, if_neg (by omega), if_neg (by omega), if_pos rfl]
  have et : ∀ t, 0 ≤ t → t < 48 → ud s (157 + t) = s (207 + 50 * (s 4 - 1) + t) := fun t t0 t1 => by
    unfold ud
    rw [hq, if_neg (by omega), if_neg (by omega), if_neg (by omega), if_pos (by omega), show 157 + t - 157 = t by omega]
  refine ⟨?_, lo, e3, e4, ed, et⟩
  have o0 := lo 0 (by omega) (by omega) (by omega) (by omega)
  have o1 := lo 1 (by omega) (by omega) (by omega) (by omega)
  have o2 := lo 2 (by omega) (by omega) (by omega) (by omega)
  have tlo : ∀ i, 0 ≤ i → i ≤ s 4 - 1 → ∀ t, 0 ≤ t → t < 48 → tl (ud s) i t = tl s i t := fun i i0 i1 t t0 t1 => by
    unfold tl
    rw [e4]
    by_cases z : i = s 4 - 1
    · rw [if_pos z, if_neg (by omega), z]; exact et t t0 t1
    · rw [if_neg z, if_neg (by omega)]; exact lo _ (by omega) (by omega) (by omega) (by omega)
  refine ⟨WFp_of hW.1 o0 o1 o2 (fun p a b => ⟨lo _ (by omega) (by omega) (by omega) (by omega), lo _ (by omega) (by omega) (by omega) (by omega), by rw [lo _ (by omega) (by omega) (by omega) (by omega)]; exact (w4 p a b).2.2⟩) (fun k a b => by rw [lo _ (by omega) (by omega) (by omega) (by omega)]; exact w6 k a b) (fun t a b => lo _ (by omega) (by omega) (by omega) (by omega)), ?_⟩
  unfold WFb
  rw [o0, o1, e3, e4]
  refine ⟨x.1, by omega, fun p a b => ?_, fun p a b => ?_, ?_, fun i a b => ?_, fun i j a b c d e => ?_, fun i a b => ?_, fun i a b t c d => ?_⟩
  · by_cases z : p = q
    · rw [z, ed]; exact Or.inl rfl
    · rw [lo _ (by omega) (by omega) (by omega) (by omega)]; exact v3 p a b
  · by_cases z : p = q
    · rw [z, ed]
    · rw [lo _ (by omega) (by omega) (by omega) (by omega)]; exact v4 p a b
  · have := cnt_up (s := s) (s' := ud s) (p := q.toNat) (v := -1) (by rw [show ((q.toNat : Nat) : Int) = q by omega, ed, x.2.2]; rfl) (fun p hp hn => lo _ (by omega) (by omega) (by omega) (by omega)) (s 1).toNat (by omega)
    rw [this, if_pos (by omega), v5]; omega
  · have y := v6 i a (by omega)
    rw [lo (205 + 50 * i) (by omega) (by omega) (by omega) (by omega), lo (206 + 50 * i) (by omega) (by omega) (by omega) (by omega)]
    refine ⟨y.1, y.2.1, ?_⟩
    have ne : s (206 + 50 * i) ≠ q := fun z => by
      have := v7 i (s 4 - 1) a (by omega) (by omega) (by omega) (by rw [z, hq])
      omega
    rw [lo _ (by omega) (by omega) (by omega) (by omega)]; exact y.2.2
  · rw [lo (206 + 50 * i) (by omega) (by omega) (by omega) (by omega), lo (206 + 50 * j) (by omega) (by omega) (by omega) (by omega)] at e
    exact v7 i j a (by omega) c (by omega) e
  · obtain ⟨x1, x2, x3⟩ := v8 i a (by omega)
    refine ⟨fun t t0 t1 => by rw [tlo i a b t t0 (by omega)]; exact x1 t t0 t1, fun t u t0 t1 u0 u1 e => ?_, fun t t0 t1 => by rw [tlo i a b _ (by omega) (by omega)]; exact x3 t t0 t1⟩
    rw [tlo i a b t t0 (by omega), tlo i a b u u0 (by omega)] at e
    exact x2 t u t0 t1 u0 u1 e
  · have y := v6 i a (by omega)
    have y2 := w4 _ y.2.1.1 y.2.1.2
    rw [tlo (i + 1) (by omega) (by omega) t c d, v9 i a (by omega) t c d, lo (206 + 50 * i) (by omega) (by omega) (by omega) (by omega), lo (35 + s (206 + 50 * i)) (by omega) (by omega) (by omega) (by omega), lo (65 + s (206 + 50 * i)) (by omega) (by omega) (by omega) (by omega)]
    exact st_ag (thOK_W.mp (v8 i a (by omega))) (by omega) (by omega) (fun u u0 u1 => (tlo i a (by omega) u u0 u1).symm) t c d
theorem A_undo : AI mX7_undo mX8_undo [] := by
  intro h m hR
  obtain ⟨⟨i1, i2, i3, i4, i5, i6, i7, i8, i9⟩, r1, r2, r3, r4, r5, r6, r7⟩ := id hR
  obtain ⟨w1, w2, w3, w4, w5, w6, w7, w8⟩ := id i1.1
  obtain ⟨v1, v2, v3, v4, v5, v6, v7, v8, v9⟩ := id i1.2
  obtain ⟨b1, ⟨D, b2, b3, b4⟩, b5, b6, b7⟩ := id r2
  by_cases c : m 1 4 = 0
  · refine A_ref hR ⟨-3, inI_s (by omega) (by omega), ?_, ?_⟩
    · exact sg_X7_undo_0 (by omega) (C_anyDone (by omega) (fun z => by omega) (fun _ => ⟨rfl, keepC_rf h⟩))
    · exact sg_X8_undo_0 ⟨inI_s (by omega) (by omega), fun z => absurd c z, fun _ => ⟨rfl, keepM_rf m⟩⟩
  · obtain ⟨hW', lo, e3, e4, ed, et⟩ := WF_ud i1 (by omega)
    have x := v6 (m 1 4 - 1) (by omega) (by omega)
    have x2 := w4 _ x.2.1.1 x.2.1.2
    have bw := b7 (m 1 4 - 1) (by omega) (by omega)
    refine ⟨m 1 4 - 1, fun h' => kp [6, 7, 8] h h' ∧ RPat h' 1 2 3 4 5 (ud (m 1)) ∧ RBen h' 6 7 8 9 10 (ud (m 1)), fun m' => kp [1] m m' ∧ m' 1 = ud (m 1), inI_s (by omega) (by omega), ?_, ?_, ?_⟩
    · refine sg_X7_undo_0 (by omega) (C_anyDone (by omega) (fun _ => sg_X0_lastWorked_0 ⟨by omega, ?_⟩) (fun z => by omega))
      rw [b5, bw.1]
      generalize hq : m 1 (206 + 50 * (m 1 4 - 1)) = q at *
      have bp := r1.2.2.2.1 q x.2.1.1 x.2.1.2
      rw [bp.2.1, bp.2.2]
      -- the threads ahead of that work
      have w0 := thOK_W.mp (v8 (m 1 4 - 1) (by omega) (by omega))
      have ch : ∀ t, 0 ≤ t → t < 48 → m 1 (157 + t) = stf (m 1 (35 + q)) (m 1 (65 + q)) (tl (m 1) (m 1 4 - 1)) t := fun t t0 t1 => by
        have := v9 (m 1 4 - 1) (by omega) (by omega) t t0 t1
        rw [hq, show m 1 4 - 1 + 1 = m 1 4 by omega] at this
        rw [← this]; unfold tl; rw [if_pos rfl]
      have ag0 : agW (m 1 0) (xth h) (stf (m 1 (35 + q)) (m 1 (65 + q)) (tl (m 1) (m 1 4 - 1))) := fun t t0 t1 => by
        have y := (xth_W i1 r2).1 t t0 t1
        exact ⟨y.1.trans (ch t t0 (by omega)), y.2.trans (ch (24 + t) (by omega) (by omega))⟩
      refine ⟨by omega, by omega, C_unwork (by omega) w0 (by omega) (by omega) (by omega) (by omega) ag0 (by omega) b2 b3 (fun h' k e y2 y3 y6 => ⟨by rw [y3, b5], k, ?_, ?_⟩)⟩
      · exact RPat_ag0 i1.1 r1 (kp_mono k (by decide)) (fun i a b => lo i (by omega) (by omega) (by omega) (by omega))
      · unfold RBen
        rw [lo 0 (by omega) (by omega) (by omega) (by omega), e3, e4]
        refine ⟨fun t t0 t1 => ?_, ⟨_, y2, wo_lt b3, fun p hp => ?_⟩, by rw [y3, b5], by rw [y6, b5]; exact bw.2, fun i i0 i1' => ?_⟩
        · have y := e t t0 t1
          have z1 : xth h' t = h' 7 t := by unfold xth; rw [if_pos (by omega)]
          have z2 : xth h' (24 + t) = h' 8 t := by unfold xth; rw [if_neg (by omega), show 24 + t - 24 = t by omega]
          have u1 := et t t0 (by omega)
          have u2 := et (24 + t) (by omega) (by omega)
          rw [show 157 + (24 + t) = 181 + t by omega] at u2
          rw [← z1, ← z2, y.1, y.2, u1, u2]
          unfold tl
          rw [if_neg (by omega), if_neg (by omega)]
          exact ⟨rfl, rfl⟩
        · unfold bti
          rw [wo_bit, Nat.testBit_two_pow]
          by_cases z : p = q.toNat
          · rw [show (95 : Int) + p = 95 + q by omega, ed]; simp [z]
          · have : ¬ q.toNat = p := fun y => z y.symm
            rw [lo _ (by omega) (by omega) (by omega) (by omega), b4 p hp]; unfold bti; simp [this]
        · rw [k 9 (by decide), k 10 (by decide), lo _ (by omega) (by omega) (by omega) (by omega), lo _ (by omega) (by omega) (by omega) (by omega)]
          exact b7 i i0 (by omega)
    · generalize hc : m 1 4 = c4 at *
      refine sg_X8_undo_0 ⟨by rw [hc]; exact inI_s (by omega) (by omega), fun _ => ?_, fun z => absurd (by rw [← hc]; exact z) c⟩
      rw [hc]
      simp (disch := omega) only [xu_ne]
      rw [show 205 + 50 * (c4 - 1) + 1 = 206 + 50 * (c4 - 1) by omega]
      refine ⟨by omega, by omega, by omega, ?_⟩
      have lp : ∀ t : Int, t ≤ 48 → 0 ≤ t → ∀ h1 : xH, kp [1] m h1 → (∀ j, h1 1 j = if j = 3 then m 1 (205 + 50 * (c4 - 1)) else if j = 4 then c4 - 1 else if j = 95 + m 1 (206 + 50 * (c4 - 1)) then 0 else if 157 ≤ j ∧ j < 157 + t then m 1 (207 + 50 * (c4 - 1) + (j - 157)) else m 1 j) → gI wdM 30 mX8_undo 67 [some (.inr (.inr 0)), some (.inl (205 + 50 * (c4 - 1))), some (.inl t)] h1 (fun n m' => n = c4 - 1 ∧ kp [1] m m' ∧ m' 1 = ud (m 1)) := by
        refine dn ?_ ?_
        · intro _ h1 k hj
          refine sg_X8_undo_67 ⟨inI_s (by omega) (by omega), fun _ => ⟨by rw [hj, if_neg (by omega), if_pos rfl], k, ?_⟩, fun z => absurd z (by omega)⟩
          funext j
          rw [hj]
          unfold ud
          rw [hc]
          rfl
        · intro t ht ih t0 h1 k hj
          refine sg_X8_undo_67 ⟨inI_s (by omega) (by omega), fun z => absurd z (by omega), fun _ => ⟨by omega, by omega, ih (by omega) _ (kp_tr k (kp_xu (by decide))) (fun j => ?_)⟩⟩
          by_cases z : j = 157 + t
          · rw [z, xu_eq, if_neg (by omega), if_neg (by omega), if_neg (by omega), if_pos (by omega), hj, if_neg (by omega), if_neg (by omega), if_neg (by omega), if_neg (by omega), show 205 + 50 * (c4 - 1) + 2 + t = 207 + 50 * (c4 - 1) + (157 + t - 157) by omega]
          · rw [xu_ne z, hj]
            split
            · rfl
            · split
              · rfl
              · split
                · rfl
                · by_cases y : 157 ≤ j ∧ j < 157 + t
                  · rw [if_pos y, if_pos (by omega)]
                  · rw [if_neg y, if_neg (by omega)]
      refine lp 0 (by omega) (by omega) _ (kp_tr (kp_tr (kp_xu (by decide)) (kp_xu (by decide))) (kp_xu (by decide))) (fun j => ?_)
      by_cases z95 : j = 95 + m 1 (206 + 50 * (c4 - 1))
      · rw [z95, xu_eq, if_neg (by omega), if_neg (by omega), if_pos rfl]
      · rw [xu_ne z95]
        by_cases z3 : j = 3
        · rw [z3, xu_eq, if_pos rfl]
        · rw [xu_ne z3]
          by_cases z4 : j = 4
          · rw [z4, xu_eq, if_neg (by omega), if_pos rfl]
          · rw [xu_ne z4, if_neg z3, if_neg z4, if_neg z95, if_neg (by omega)]
    · intro h' m' ⟨k1, gP, gB⟩ ⟨k2, em⟩
      have m0 : m' 0 = m 0 := k2 0 (by decide)
      exact hR.patU (kp_mono k1 (by decide)) (kp_mono k2 (by decide)) (by rw [m0]) (by rw [m0]) (by rw [m0]) (by rw [em]; exact hW') (by rw [em]; exact gP) (by rw [em]; exact gB)
