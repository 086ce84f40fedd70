/-! API seen -/
def alb (P : Int → Bool) : Nat → Bool
  | 0 => true
  | n + 1 => alb P n && P n
/-- the pin, worked with that stitch, would give this -/
def sn (v s : Int → Int) (p st : Int) : Bool := alb (fun t => decide (v t = stf (s (35 + p)) st (fun u => s (157 + u)) t)) (2 * s 0).toNat
theorem xorI_p {a : Nat} {p : Int} (ha : a < 2 ^ 30) (h0 : 0 ≤ p) (h1 : p ≤ 29) : xorI a (1 * 2 ^ (Int.toNat p)) = ((a ||| 2 ^ p.toNat : Nat) : Int) := by
  rw [Int.one_mul, pow_i h0]
  have h2 : 2 ^ p.toNat < 2 ^ 30 := two_pow_lt (by omega)
  exact xorI_nat (by omega) (by omega)
theorem xand_b (b c : Bool) : xandI (b2i b) (b2i c) = b2i (b && c) := by
  cases b <;> cases c <;> decide
/-- threads as y has them, all else as x0 has it -/
def smT (w : Int) (x0 x y : Int → Int) : Prop := (∀ t, 0 ≤ t → t < 2 * w → x t = y t) ∧ ∀ t, (t < 0 ∨ 2 * w ≤ t) → x t = x0 t
theorem smT.gof {x0 x y : Int → Int} {o u w : Int} (h : smT w x0 x y) (hy : thR w y) (ho : 0 ≤ o ∧ o < 2 * w) (hu : 0 ≤ u ∧ u < 2 * w) (hw : w ≤ 12) : smT w x0 (gofb false x o u) (gof y o u) := by
  have yo := hy.1 o ho.1 ho.2
  have eo := h.1 o ho.1 ho.2
  have eu := h.1 u hu.1 hu.2
  refine ⟨fun t a b => ?_, fun t a => ?_⟩
  · rw [gof_at hy ho hu hw]
    simp only [gofb, gsw, up1, Bool.false_eq_true, if_false]
    rw [eo, eu, if_neg (show ¬ t = 24 + y o by omega), h.1 t a b]
  · simp only [gofb, gsw, up1, Bool.false_eq_true, if_false]
    rw [if_neg (by omega), if_neg (by omega)]
    exact h.2 t a
theorem smT.C {x0 x y : Int → Int} {sl w i : Int} (h : smT w x0 x y) (hy : thW w i y) (hs : 0 ≤ sl ∧ sl ≤ w - 2) (hw : w ≤ 12) : smT w x0 (sbC false sl x) (stC sl y) := h.gof hy.1 (by omega) (by omega) hw
theorem smT.T {x0 x y : Int → Int} {sl w i : Int} (h : smT w x0 x y) (hy : thW w i y) (hs : 0 ≤ sl ∧ sl ≤ w - 2) (hw : w ≤ 12) : smT w x0 (sbT false sl x) (stT sl y) :=
  (h.gof hy.1 (by omega) (by omega) hw).gof (gof_thR hy.1 (by omega) (by omega) hw) (by omega) (by omega) hw
theorem smT.st {x0 x y : Int → Int} {sl st w i : Int} (h : smT w x0 x y) (hx : thW w i y) (hs : 0 ≤ sl ∧ sl ≤ w - 2) (hw : w ≤ 12) : smT w x0 (sbf false sl st x) (stf sl st y) := by
  unfold sbf stf
  split
  · exact h.C hx hs hw
  · split
    · exact h.T hx hs hw
    · split
      · exact (h.C hx hs hw).T (hx.C hs hw) hs hw
      · split
        · exact ((h.C hx hs hw).T (hx.C hs hw) hs hw).C ((hx.C hs hw).T hs hw) hs hw
        · exact (((h.C hx hs hw).T (hx.C hs hw) hs hw).C ((hx.C hs hw).T hs hw) hs hw).T (((hx.C hs hw).T hs hw).C hs hw) hs hw
theorem C_wouldBeSeen {d : Nat} {p st l i : Int} {h : xH} {s v : Int → Int} {Q : Int → xH → Prop} (hd : 3 ≤ d) (hW : WF s) (hP : RPat h 1 2 3 4 5 s) (hB : RBen h 6 7 8 9 10 s) (h0 : 0 ≤ p) (h1 : p < s 1) (hz : s (95 + p) = 0) (hst : 0 ≤ st ∧ st ≤ 4) (hl : 0 ≤ l ∧ l < 4) (hi : 0 ≤ i ∧ i + 2 * s 0 ≤ 30) (hv : ∀ t, 0 ≤ t → t < 2 * s 0 → h 52 (l * 30 + (i + t)) = v t ∧ inL (v t))
    (hq : ∀ h', kp [6, 7, 8, 9, 10] h h' → RBen h' 6 7 8 9 10 s → Q (b2i (sn v s p st)) h') : cI wdC d mX7_wouldBeSeen [.inr (.inr 0), .inl p, .inl st, .inl l, .inl i] h Q := by
  obtain ⟨w1, w2, w3, w4, w5, w6, w7, w8⟩ := id hW.1
  have v2 := hW.2.2.1
  have lt := wc_lt hW h0 h1 hz
  have a := w4 p h0 h1
  have b := hP.2.2.2.1 p h0 h1
  obtain ⟨xa, xw⟩ := xth_W hW hB
  obtain ⟨n1, n2, n3⟩ := th_now hW
  obtain ⟨b1, ⟨D, b2, b3, b4⟩, b5, b6, b7⟩ := id hB
  have hDp : D.testBit p.toNat = false := by
    have := b4 p.toNat (by omega)
    rw [show (95 : Int) + (p.toNat : Nat) = 95 + p by omega, hz] at this
    unfold bti at this
    cases hh : D.testBit p.toNat with
    | false => rfl
    | true => rw [hh] at this; exact absurd this (by decide)
  refine sg_X7_wouldBeSeen_0 (by omega) ⟨by omega, ?_⟩
  rw [b.2.1]
  refine C_workPin (by omega) xw (by omega) (by omega) hst (by omega) (fun t _ _ => ⟨rfl, rfl⟩) (by omega) b2 b3 (fun h' k e x2 x3 x6 x9 x10 => ?_)
  have ew := xa.st (sl := s (35 + p)) (st := st) xw (by omega) (by omega)
  have e1 : h' 1 = h 1 := k 1 (by decide)
  have e52 : h' 52 = h 52 := k 52 (by decide)
  have q1 := hP.1
  have e7 : ∀ t, 0 ≤ t → t < 2 * s 0 → h' 7 t = stf (s (35 + p)) st (fun u => s (157 + u)) t := fun t t0 t1 => by
    have z1 : xth h' t = h' 7 t := by unfold xth; rw [if_pos (by omega)]
    rw [← z1, (e t t0 t1).1, (ew t t0 t1).1]
  have xw2 := xw.st (sl := s (35 + p)) (st := st) (by omega) (by omega)
  have lp : ∀ t : Int, t ≤ 2 * s 0 → 0 ≤ t → gI wdC d mX7_wouldBeSeen 28 [some (.inr (.inr 0)), some (.inl p), some (.inl st), some (.inl l), some (.inl i), some (.inl (s (35 + p))), some (.inl (b2i (alb (fun t => decide (v t = stf (s (35 + p)) st (fun u => s (157 + u)) t)) t.toNat))), some (.inl t)] h' Q := by
    refine dn ?_ ?_
    · intro _
      refine sg_X7_wouldBeSeen_28 (by omega) ⟨⟨inI_s (by omega) (by omega), by rw [e1]; exact inI_s (by omega) (by omega)⟩, fun _ => ?_, fun z => absurd z (by rw [e1]; omega)⟩
      refine C_unwork (by omega) xw (by omega) (by omega) hst (by omega) e (by omega) x2 (Nat.or_lt_two_pow b3 (two_pow_lt (by omega))) (fun h2 k2 f y2 y3 y6 => ⟨b2i_01 _, hq h2 (kp_tr k (kp_mono k2 (by decide))) ?_⟩)
      refine ⟨fun t t0 t1 => ?_, ⟨D, ?_, b3, b4⟩, by rw [y3, x3]; omega, ?_, fun j j0 j1 => ?_⟩
      · have z1 : xth h2 t = h2 7 t := by unfold xth; rw [if_pos (by omega)]
        have z2 : xth h2 (24 + t) = h2 8 t := by unfold xth; rw [if_neg (by omega), show 24 + t - 24 = t by omega]
        have z3 : xth h t = h 7 t := by unfold xth; rw [if_pos (by omega)]
        have z4 : xth h (24 + t) = h 8 t := by unfold xth; rw [if_neg (by omega), show 24 + t - 24 = t by omega]
        rw [← z1, ← z2, (f t t0 t1).1, (f t t0 t1).2, z3, z4]
        exact b1 t t0 t1
      · rw [y2]
        congr 1
        apply Nat.eq_of_testBit_eq
        intro j
        rw [wo_bit, or_bit, Nat.testBit_two_pow]
        by_cases z : j = p.toNat
        · subst z; rw [hDp]; simp
        · have : ¬ p.toNat = j := fun y => z y.symm
          simp [z, this]
      · rw [y6, x10, x3, show h 6 3 + 1 - 1 = h 6 3 by omega, up1_eq]; exact b6
      · rw [k2 9 (by decide), k2 10 (by decide), x9, x10, up1_ne (by omega), up1_ne (by omega)]
        exact b7 j j0 j1
    · intro t ht ih t0
      have et : ((t.toNat : Nat) : Int) = t := by omega
      have ih := ih (by omega)
      rw [show (t + 1).toNat = t.toNat + 1 by omega] at ih
      simp only [alb, et] at ih
      have y := hv t t0 ht
      have g := e7 t t0 ht
      have g2 := xw2.1.1 t t0 ht
      have g3 := (ew t t0 ht).1
      rw [g3] at g2
      refine sg_X7_wouldBeSeen_28 (by omega) ⟨⟨inI_s (by omega) (by omega), by rw [e1]; exact inI_s (by omega) (by omega)⟩, fun z => absurd z (by rw [e1]; omega), fun _ => sg_X4_at_0 ⟨by omega, ?_⟩⟩
      rw [e52, y.1, g]
      refine ⟨by omega, inI_s (by omega) (by omega), ⟨y.2, inL_I (inI_s (by omega) (by omega))⟩, fun z => ?_, fun z => ?_⟩
      · rw [decide_eq_true z, Bool.and_true] at ih; exact ih
      · rw [decide_eq_false z, Bool.and_false] at ih; exact ih
  exact lp 0 (by omega) (by omega)
