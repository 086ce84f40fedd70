/-! work (2): the class's workPin and unwork; the state behind work and undo -/
def sqA (sl st : Int) (x : Int → Int) : Nat → Int → Int
  | 0 => x
  | n + 1 => if icr st n then stC sl (sqA sl st x n) else stT sl (sqA sl st x n)
theorem sqA_end (sl st : Int) (x : Int → Int) (h : 0 ≤ st ∧ st ≤ 4) : sqA sl st x (acn st).toNat = stf sl st x := by
  rcases (show st = 0 ∨ st = 1 ∨ st = 2 ∨ st = 3 ∨ st = 4 by omega) with e | e | e | e | e <;> subst e <;> rfl
theorem sqA_W {sl st w i : Int} {x : Int → Int} (hx : thW w i x) (hs : 0 ≤ sl ∧ sl ≤ w - 2) (hw : w ≤ 12) : ∀ n : Nat, thW w (i + 2 * n) (sqA sl st x n) := by
  intro n
  induction n with
  | zero => exact hx.mono (by omega)
  | succ n ih =>
    unfold sqA
    split
    · exact (ih.C hs hw).mono (by omega)
    · exact (ih.T hs hw).mono (by omega)
theorem acn_in {st : Int} : 0 ≤ acn st ∧ acn st ≤ 4 := by unfold acn; split <;> (try split) <;> (try split) <;> (try split) <;> omega
theorem C_workPin {d : Nat} {p sl st w i : Int} {h : xH} {x : Int → Int} {D : Nat} {Q : xH → Prop} (hd : 2 ≤ d) (hx : thW w i x) (hw : w ≤ 12) (hs : 0 ≤ sl ∧ sl ≤ w - 2) (hst : 0 ≤ st ∧ st ≤ 4) (hp : 0 ≤ p ∧ p < 30) (ha : agW w (xth h) x) (hc : 0 ≤ h 6 3 ∧ h 6 3 < 30) (hD : h 6 2 = D) (hDl : D < 2 ^ 30)
    (hq : ∀ h', kp [6, 7, 8, 9, 10] h h' → agW w (xth h') (stf sl st x) → h' 6 2 = ((D ||| 2 ^ p.toNat : Nat) : Int) → h' 6 3 = h 6 3 + 1 → h' 6 6 = sl → h' 9 = up1 (h 9) (h 6 3) p → h' 10 = up1 (h 10) (h 6 3) (h 6 6) → Q h') : cV wdC d mX0_workPin [.inr (.inr 6), .inl p, .inl sl, .inl st] h Q := by
  have ac := acn_in (st := st)
  have lp : ∀ a : Int, a ≤ acn st → 0 ≤ a → ∀ h1 : xH, kp [7, 8] h h1 → agW w (xth h1) (sqA sl st x a.toNat) → gV wdC d mX0_workPin 18 [some (.inr (.inr 6)), some (.inl p), some (.inl sl), some (.inl st), some (.inl (2 * sl)), some (.inl a)] h1 Q := by
    refine dn ?_ ?_
    · intro _ h1 k e
      rw [sqA_end _ _ _ hst] at e
      have e6 : h1 6 = h 6 := k 6 (by decide)
      have e9 : h1 9 = h 9 := k 9 (by decide)
      have e10 : h1 10 = h 10 := k 10 (by decide)
      refine sg_X0_workPin_18 (by omega) (C_actCount hst ⟨⟨inI_s (by omega) (by omega), inI_s (by omega) (by omega)⟩, fun _ => ⟨by rw [e6]; omega, by rw [e6]; omega, C_pinBit rfl (by omega) (hq _ ?_ ?_ ?_ ?_ ?_ ?_ ?_)⟩, fun z => absurd z (by omega)⟩)
      · exact kp_tr (kp_mono k (by decide)) (kp_tr (kp_tr (kp_tr (kp_xu (by decide)) (kp_xu (by decide))) (kp_xu (by decide))) (kp_tr (kp_xu (by decide)) (kp_xu (by decide))))
      · intro t t0 t1
        have := e t t0 t1
        unfold xth at this ⊢
        simp (disch := omega) only [xu_cn]
        exact this
      · simp (disch := omega) only [xu_ne, xu_eq]
        rw [e6, hD, xorL_pow (by omega) hp.1 (by omega)]
      · simp (disch := omega) only [xu_ne, xu_eq]; rw [e6]
      · simp (disch := omega) only [xu_eq]
      · rw [xu_oth (by decide), xu_oth (by decide), xu_oth (by decide), xu_oth (by decide), xu_row, e9, e6]
      · rw [xu_oth (by decide), xu_oth (by decide), xu_oth (by decide), xu_row, xu_oth (by decide), e10, e6]
    · intro a ha' ih a0 h1 k e
      have en : (a + 1).toNat = a.toNat + 1 := by omega
      have et : ((a.toNat : Nat) : Int) = a := by omega
      have ih := ih (by omega)
      rw [en] at ih
      simp only [sqA, et] at ih
      have tw := (sqA_W (st := st) hx hs hw a.toNat).1
      refine sg_X0_workPin_18 (by omega) (C_actCount hst ⟨⟨inI_s (by omega) (by omega), inI_s (by omega) (by omega)⟩, fun z => absurd z (by omega), fun _ => C_isCrossAct hst (by omega) (fun b => C_goOver (by omega) tw hw (by omega) (by omega) e (fun h2 k2 e2 => ih h2 (kp_tr k k2) ?_)) (fun b => C_goOver (by omega) tw hw (by omega) (by omega) e (fun h2 k2 e2 => C_goOver (by omega) (gof_thR tw (by omega) (by omega) hw) hw (by omega) (by omega) e2 (fun h3 k3 e3 => ih h3 (kp_tr (kp_tr k k2) k3) ?_)))⟩)
      · rw [b, if_pos rfl]; exact e2
      · rw [b, if_neg (by decide)]; exact e3
  exact sg_X0_workPin_0 ⟨inI_s (by omega) (by omega), fun _ => lp 0 (by omega) (by omega) h (kp_rf _ _) ha, fun z => absurd z (by omega)⟩
theorem C_unwork {d : Nat} {p sl st w i : Int} {h : xH} {x : Int → Int} {D : Nat} {Q : xH → Prop} (hd : 2 ≤ d) (hx : thW w i x) (hw : w ≤ 12) (hs : 0 ≤ sl ∧ sl ≤ w - 2) (hst : 0 ≤ st ∧ st ≤ 4) (hp : 0 ≤ p ∧ p < 30) (ha : agW w (xth h) (stf sl st x)) (hc : 0 < h 6 3 ∧ h 6 3 ≤ 30) (hD : h 6 2 = D) (hDl : D < 2 ^ 30)
    (hq : ∀ h', kp [6, 7, 8] h h' → agW w (xth h') x → h' 6 2 = ((wo D (2 ^ p.toNat) : Nat) : Int) → h' 6 3 = h 6 3 - 1 → h' 6 6 = h 10 (h 6 3 - 1) → Q h') : cV wdC d mX0_unwork [.inr (.inr 6), .inl p, .inl sl, .inl st] h Q := by
  have ac := acn_in (st := st)
  have p30 : 2 ^ p.toNat < 2 ^ 30 := two_pow_lt (by omega)
  have lp : ∀ n : Nat, (n : Int) ≤ acn st → ∀ h1 : xH, kp [7, 8] h h1 → agW w (xth h1) (sqA sl st x n) → gV wdC d mX0_unwork 21 [some (.inr (.inr 6)), some (.inl p), none, some (.inl st), some (.inl (2 * sl)), some (.inl ((n : Int) - 1))] h1 Q := by
    intro n
    induction n with
    | zero =>
      intro _ h1 k e
      have e6 : h1 6 = h 6 := k 6 (by decide)
      have e10 : h1 10 = h 10 := k 10 (by decide)
      refine sg_X0_unwork_21 (by omega) ⟨inI_s (by omega) (by omega), fun _ => C_pinBit rfl (by omega) ⟨by rw [xu_eq, e6]; omega, hq _ ?_ ?_ ?_ ?_ ?_⟩, fun z => absurd z (by omega)⟩
      · exact kp_tr (kp_mono k (by decide)) (kp_tr (kp_xu (by decide)) (kp_tr (kp_xu (by decide)) (kp_xu (by decide))))
      · intro t t0 t1
        have := e t t0 t1
        unfold xth at this ⊢
        simp (disch := omega) only [xu_cn]
        exact this
      · simp (disch := omega) only [xu_ne, xu_eq]
        rw [e6, hD, xandL_wo (by omega) (by omega)]
      · simp (disch := omega) only [xu_ne, xu_eq]; rw [e6]
      · simp (disch := omega) only [xu_eq, xu_cn]; rw [e6, e10]
    | succ n ih =>
      intro hn h1 k e
      simp only [sqA] at e
      have tw := (sqA_W (st := st) hx hs hw n).1
      have e0 : ((n + 1 : Nat) : Int) - 1 = (n : Int) := by omega
      rw [e0]
      have ih := ih (by omega)
      refine sg_X0_unwork_21 (by omega) ⟨inI_s (by omega) (by omega), fun z => absurd z (by omega), fun _ => C_isCrossAct hst (by omega) (fun b => ?_) (fun b => ?_)⟩
      · rw [b, if_pos rfl] at e
        exact C_goBack (by omega) tw hw (by omega) (by omega) (by omega) e (fun h2 k2 e2 => ih h2 (kp_tr k k2) e2)
      · rw [b, if_neg (by decide)] at e
        unfold stT at e
        rw [gof_comm tw hs hw] at e
        exact C_goBack (by omega) (gof_thR tw (by omega) (by omega) hw) hw (by omega) (by omega) (by omega) e (fun h2 k2 e2 => C_goBack (by omega) tw hw (by omega) (by omega) (by omega) e2 (fun h3 k3 e3 => ih h3 (kp_tr (kp_tr k k2) k3) e3))
  refine sg_X0_unwork_0 (by omega) ⟨inI_s (by omega) (by omega), fun _ => C_actCount hst ?_, fun z => absurd z (by omega)⟩
  have := lp (acn st).toNat (by omega) h (kp_rf _ _) (by rw [sqA_end _ _ _ hst]; exact ha)
  rw [show (((acn st).toNat : Nat) : Int) = acn st by omega] at this
  exact this
theorem cnt_lt {s : Int → Int} : ∀ n : Nat, (∀ p : Nat, p < n → s (95 + p) = 0 ∨ s (95 + p) = 1) → cnt s n ≤ n ∧ ∀ p : Nat, p < n → s (95 + p) = 0 → cnt s n + 1 ≤ n := by
  intro n
  induction n with
  | zero => intro _; exact ⟨by simp [cnt], fun p hp => by omega⟩
  | succ n ih =>
    intro h
    obtain ⟨i1, i2⟩ := ih (fun p hp => h p (by omega))
    have := h n (by omega)
    unfold cnt
    refine ⟨by omega, fun p hp e => ?_⟩
    rcases (show p = n ∨ p < n by omega) with z | z
    · rw [z] at e; omega
    · have := i2 p z e; omega
theorem cnt_up {s s' : Int → Int} {p : Nat} {v : Int} (hv : s' (95 + p) = s (95 + p) + v) (ho : ∀ q : Nat, q < 30 → q ≠ p → s' (95 + q) = s (95 + q)) : ∀ n : Nat, n ≤ 30 → cnt s' n = if p < n then cnt s n + v else cnt s n := by
  intro n
  induction n with
  | zero => intro _; rfl
  | succ n ih =>
    intro hn
    unfold cnt
    rw [ih (by omega)]
    by_cases e : n = p
    · rw [e, hv, if_neg (by omega), if_pos (by omega)]; omega
    · rw [ho n (by omega) e]
      by_cases z : p < n
      · rw [if_pos z, if_pos (by omega)]; omega
      · rw [if_neg z, if_neg (by omega)]
/-- fewer done than there are, if one isn't -/
theorem wc_lt {s : Int → Int} (hW : WF s) {p : Int} (h0 : 0 ≤ p) (h1 : p < s 1) (hz : s (95 + p) = 0) : s 4 + 1 ≤ s 1 := by
  obtain ⟨v1, v2, v3, v4, v5, v6⟩ := hW.2
  have w2 := hW.1.2.1
  have := (cnt_lt (s := s) (s 1).toNat (fun q hq => v3 q (by omega) (by omega))).2 p.toNat (by omega) (by rw [show ((p.toNat : Nat) : Int) = p by omega]; exact hz)
  omega
theorem WF_wk {s : Int → Int} (hW : WF s) {p : Int} (h0 : 0 ≤ p) (h1 : p < s 1) (hz : s (95 + p) = 0) : WF (wk s p) ∧ (∀ i, i ≠ 3 → i ≠ 4 → i ≠ 95 + p → i < 157 → wk s p i = s i) ∧ wk s p 3 = s (35 + p) ∧ wk s p 4 = s 4 + 1 ∧ wk s p (95 + p) = 1 ∧ (∀ t, 0 ≤ t → t < 48 → wk s p (157 + t) = stf (s (35 + p)) (s (65 + p)) (fun t => s (157 + t)) t) ∧ (∀ i, 0 ≤ i → i < s 4 → ∀ j, 0 ≤ j → j < 50 → wk s p (205 + 50 * i + j) = s (205 + 50 * i + j)) ∧ wk s p (205 + 50 * s 4) = s 3 ∧ wk s p (206 + 50 * s 4) = p := by
  obtain ⟨w1, w2, w3, w4, w5, w6, w7, w8⟩ := id hW.1
  obtain ⟨v1, v2, v3, v4, v5, v6, v7, v8, v9⟩ := id hW.2
  have lt := wc_lt hW h0 h1 hz
  have a := w4 p h0 h1
  have lo : ∀ i, i ≠ 3 → i ≠ 4 → i ≠ 95 + p → i < 157 → wk s p i = s i := fun i a b c d => by
    unfold wk
    rw [if_neg a, if_neg b, if_neg c, if_neg (by omega), if_neg (by omega), if_neg (by omega), if_neg (by omega)]
  have e3 : wk s p 3 = s (35 + p) := by unfold wk; rw [if_pos rfl]
  have e4 : wk s p 4 = s 4 + 1 := by unfold wk; rw [if_neg (by omega), if_pos rfl]
  have ed : wk s p (95 + p) = 1 := by unfold wk; rw [if_neg (by omega), if_neg (by omega), if_pos rfl]
  have et : ∀ t, 0 ≤ t → t < 48 → wk s p (157 + t) = stf (s (35 + p)) (s (65 + p)) (fun t => s (157 + t)) t := fun t t0 t1 => by
    unfold wk
    rw [if_neg (by omega), if_neg (by omega), if_neg (by omega), if_pos (by omega), show 157 + t - 157 = t by omega]
  have el : ∀ i, 0 ≤ i → i < s 4 → ∀ j, 0 ≤ j → j < 50 → wk s p (205 + 50 * i + j) = s (205 + 50 * i + j) := fun i i0 i1 j j0 j1 => by
    unfold wk
    rw [if_neg (by omega), if_neg (by omega), if_neg (by omega), if_neg (by omega), if_neg (by omega), if_neg (by omega), if_neg (by omega)]
  have eb : wk s p (205 + 50 * s 4) = s 3 := by
    unfold wk
    rw [if_neg (by omega), if_neg (by omega), if_neg (by omega), if_neg (by omega), if_pos rfl]
  have eb1 : wk s p (206 + 50 * s 4) = p := by
    unfold wk
    rw [if_neg (by omega), if_neg (by omega), if_neg (by omega), if_neg (by omega), if_neg (by omega), if_pos rfl]
  have es : ∀ t, 0 ≤ t → t < 48 → wk s p (207 + 50 * s 4 + t) = s (157 + t) := fun t t0 t1 => by
    unfold wk
    rw [if_neg (by omega), if_neg (by omega), if_neg (by omega), if_neg (by omega), if_neg (by omega), if_neg (by omega), if_pos (by omega), show 207 + 50 * s 4 + t - (207 + 50 * s 4) = t by omega]
  refine ⟨?_, lo, e3, e4, ed, et, el, eb, eb1⟩
  have o0 := lo 0 (by omega) (by omega) (by omega) (by omega)
  have o1 := lo 1 (by omega) (by omega) (by omega) (by omega)
  have o2 := lo 2 (by omega) (by omega) (by omega) (by omega)
  -- threads behind i works
  have tlo : ∀ i, 0 ≤ i → i ≤ s 4 → ∀ t, 0 ≤ t → t < 48 → tl (wk s p) i t = tl s i t := fun i i0 i1 t t0 t1 => by
    unfold tl
    rw [e4, if_neg (by omega)]
    by_cases z : i = s 4
    · rw [if_pos z, z]; exact es t t0 t1
    · rw [if_neg z]
      have := el i i0 (by omega) (2 + t) (by omega) (by omega)
      rw [show 205 + 50 * i + (2 + t) = 207 + 50 * i + t by omega] at this
      exact this
  have tnew : ∀ t, 0 ≤ t → t < 48 → tl (wk s p) (s 4 + 1) t = stf (s (35 + p)) (s (65 + p)) (tl s (s 4)) t := fun t t0 t1 => by
    have e1 : tl s (s 4) = fun t => s (157 + t) := by funext u; unfold tl; rw [if_pos rfl]
    rw [e1]
    unfold tl
    rw [e4, if_pos rfl]
    exact et t t0 t1
  have wN := thOK_W.mp (v8 (s 4) (by omega) (by omega))
  refine ⟨WFp_of hW.1 o0 o1 o2 (fun q a b => ⟨lo _ (by omega) (by omega) (by omega) (by omega), lo _ (by omega) (by omega) (by omega) (by omega), by rw [lo _ (by omega) (by omega) (by omega) (by omega)]; exact (w4 q a b).2.2⟩) (fun k a b => by rw [lo _ (by omega) (by omega) (by omega) (by omega)]; exact w6 k a b) (fun t a b => lo _ (by omega) (by omega) (by omega) (by omega)), ?_⟩
  have done : ∀ q, 0 ≤ q → q < 30 → q ≠ p → wk s p (95 + q) = s (95 + q) := fun q a b c => lo _ (by omega) (by omega) (by omega) (by omega)
  have olev : ∀ i, 0 ≤ i → i < s 4 → wk s p (205 + 50 * i) = s (205 + 50 * i) ∧ wk s p (206 + 50 * i) = s (206 + 50 * i) := fun i i0 i1 => by
    have x := el i i0 i1 0 (by omega) (by omega)
    have y := el i i0 i1 1 (by omega) (by omega)
    rw [show 205 + 50 * i + 0 = 205 + 50 * i by omega] at x
    rw [show 205 + 50 * i + 1 = 206 + 50 * i by omega] at y
    exact ⟨x, y⟩
  unfold WFb
  rw [o0, o1, e3, e4]
  refine ⟨by omega, by omega, fun q a b => ?_, fun q a b => ?_, ?_, fun i a b => ?_, fun i j a b c d e => ?_, fun i a b => ?_, fun i a b t c d => ?_⟩
  · by_cases z : q = p
    · rw [z, ed]; exact Or.inr rfl
    · rw [done q a b z]; exact v3 q a b
  · rw [done q (by omega) b (by omega)]; exact v4 q a b
  · have := cnt_up (s := s) (s' := wk s p) (p := p.toNat) (v := 1) (by rw [show ((p.toNat : Nat) : Int) = p by omega, ed, hz]; rfl) (fun q hq hn => done q (by omega) (by omega) (by omega)) (s 1).toNat (by omega)
    rw [this, if_pos (by omega), v5]
  · by_cases z : i = s 4
    · rw [z, eb, eb1, ed]; exact ⟨v1, ⟨h0, h1⟩, rfl⟩
    · have x := v6 i a (by omega)
      have y := olev i a (by omega)
      rw [y.1, y.2]
      refine ⟨x.1, x.2.1, ?_⟩
      rw [done _ x.2.1.1 (by omega) (fun z => by rw [z] at x; omega)]
      exact x.2.2
  · by_cases z : i = s 4
    · by_cases y : j = s 4
      · omega
      · rw [z, eb1, (olev j c (by omega)).2] at e
        have x := v6 j c (by omega)
        rw [← e] at x; omega
    · by_cases y : j = s 4
      · rw [y, eb1, (olev i a (by omega)).2] at e
        have x := v6 i a (by omega)
        rw [e] at x; omega
      · rw [(olev i a (by omega)).2, (olev j c (by omega)).2] at e
        exact v7 i j a (by omega) c (by omega) e
  · by_cases z : i = s 4 + 1
    · rw [z]
      have wn := wN.st (sl := s (35 + p)) (st := s (65 + p)) (by omega) (by omega)
      refine thOK_W.mpr ((thW.mono (i := 6 * s 4 + 6) ?_ (by omega)))
      refine ⟨⟨fun t t0 t1 => by rw [tnew t t0 (by omega)]; exact wn.1.1 t t0 t1, fun t u t0 t1 u0 u1 e => ?_⟩, fun t t0 t1 => by rw [tnew _ (by omega) (by omega)]; exact wn.2 t t0 t1⟩
      rw [tnew t t0 (by omega), tnew u u0 (by omega)] at e
      exact wn.1.2 t u t0 t1 u0 u1 e
    · obtain ⟨x1, x2, x3⟩ := v8 i a (by omega)
      refine ⟨fun t t0 t1 => by rw [tlo i a (by omega) t t0 (by omega)]; exact x1 t t0 t1, fun t u t0 t1 u0 u1 e => ?_, fun t t0 t1 => by rw [tlo i a (by omega) _ (by omega) (by omega)]; exact x3 t t0 t1⟩
      rw [tlo i a (by omega) t t0 (by omega), tlo i a (by omega) u u0 (by omega)] at e
      exact x2 t u t0 t1 u0 u1 e
  · by_cases z : i = s 4
    · rw [z, tnew t c d, eb1, lo (35 + p) (by omega) (by omega) (by omega) (by omega), lo (65 + p) (by omega) (by omega) (by omega) (by omega)]
      exact st_ag wN (by omega) (by omega) (fun u u0 u1 => (tlo (s 4) (by omega) (by omega) u u0 u1).symm) t c d
    · have x := v6 i a (by omega)
      have y := w4 _ x.2.1.1 x.2.1.2
      rw [tlo (i + 1) (by omega) (by omega) t c d, v9 i a (by omega) t c d, (olev i a (by omega)).2, lo (35 + s (206 + 50 * i)) (by omega) (by omega) (by omega) (by omega), lo (65 + s (206 + 50 * i)) (by omega) (by omega) (by omega) (by omega)]
      exact st_ag (thOK_W.mp (v8 i a (by omega))) (by omega) (by omega) (fun u u0 u1 => (tlo i a (by omega) u u0 u1).symm) t c d
