/-! API methods that only ask (2) -/
theorem bts_congr {P P' : Int → Bool} : ∀ {n : Nat}, (∀ p : Nat, p < n → P p = P' p) → bts P n = bts P' n := by
  intro n
  induction n with
  | zero => intro _; rfl
  | succ n ih =>
    intro h
    unfold bts
    rw [h n (by omega), ih (fun p hp => h p (by omega))]
theorem rdy_congr {s f g : Int → Int} {p : Int} (h : f p = g p) : rdy s f p = rdy s g p := by
  unfold rdy; rw [h]
theorem inL_62 {n : Nat} (h : n < 2 ^ 62) : inL n := by unfold inL; omega
theorem mul_bit (a k q : Nat) : bti a k * 2 ^ q = (((if a.testBit k then 2 ^ q else 0) : Nat) : Int) := by
  unfold bti
  split
  · rw [Int.one_mul, pow_nat]
  · rw [Int.zero_mul]; rfl
theorem M_needs2 {d : Nat} {p : Int} {h : xH} {Q : Int → xH → Prop} (hW : WFp (h 1)) (hN : ∀ q, 0 ≤ q → q < h 1 1 → NeedAt (h 1) (h 4) (h 5) (h 7) q) (hp : 0 ≤ p ∧ p < h 1 1) (hq : Q (bts (fun q => (h 5 q).toNat.testBit p.toNat) (h 1 1).toNat) h) : gL wdM d mX8_needs 58 [some (.inr (.inr 0)), some (.inl p), none, some (.inr (.inl 0)), none, some (.inl 0)] h Q := by
  obtain ⟨w1, w2, w3, w4, w5, w6, w7, w8⟩ := id hW
  have lp : ∀ t : Int, t ≤ h 1 1 → 0 ≤ t → gL wdM d mX8_needs 58 [some (.inr (.inr 0)), some (.inl p), none, some (.inr (.inl (bts (fun q => (h 5 q).toNat.testBit p.toNat) t.toNat))), none, some (.inl t)] h Q := by
    refine dn ?_ ?_
    · intro _
      exact sg_X8_needs_58 ⟨⟨inI_s (by omega) (by omega), inI_s (by omega) (by omega)⟩, fun _ => hq, fun z => absurd z (by omega)⟩
    · intro t ht ih h0
      obtain ⟨N, eN, hNl, hNb⟩ := need_N hW hN h0 ht
      have e : (t + 1).toNat = t.toNat + 1 := by omega
      have et : ((t.toNat : Nat) : Int) = t := by omega
      have ih := ih (by omega)
      rw [e, bts, et, eN, Int.toNat_natCast] at ih
      have l62 : bts (fun q => (h 5 q).toNat.testBit p.toNat) t.toNat < 2 ^ 62 := bts_62 _ (by omega)
      refine sg_X8_needs_58 ⟨⟨inI_s (by omega) (by omega), inI_s (by omega) (by omega)⟩, fun z => absurd z (by omega), fun _ => ⟨by omega, ⟨by rw [eN]; exact inL_62 (by omega), by omega, by omega⟩, by omega, ?_⟩⟩
      rw [eN, x_bitL (by omega) hp.1, mul_bit]
      cases hb : N.testBit p.toNat with
      | false =>
        rw [hb, if_neg (by decide)] at ih
        rw [if_neg (by decide), show ((0 : Nat) : Int) = 0 from rfl, xorL_0 l62]; exact ih
      | true =>
        rw [hb, if_pos rfl] at ih
        rw [if_pos rfl, xorL_pow l62 h0 (by omega)]; exact ih
  exact lp 0 (by omega) (by omega)
theorem C_neededBy {d : Nat} {p : Int} {h : xH} {s : Int → Int} {Q : Int → xH → Prop} (hd : 2 ≤ d) (hW : WFp s) (hN : ∀ q, 0 ≤ q → q < s 1 → NeedAt s (h 27) (h 28) (h 29) q) (hp : 0 ≤ p ∧ p < s 1) (hq : Q (bts (fun q => (h 28 q).toNat.testBit p.toNat) (s 1).toNat) h) : cL wdC d mX2_neededBy [.inr (.inr 26), .inl p, .inl (s 1)] h Q := by
  obtain ⟨w1, w2, w3, w4, w5, w6, w7, w8⟩ := id hW
  have lp : ∀ t : Int, t ≤ s 1 → 0 ≤ t → gL wdC d mX2_neededBy 5 [some (.inr (.inr 26)), some (.inl p), some (.inl (s 1)), some (.inr (.inl (bts (fun q => (h 28 q).toNat.testBit p.toNat) t.toNat))), none, some (.inl t)] h Q := by
    refine dn ?_ ?_
    · intro _
      exact sg_X2_neededBy_5 (by omega) ⟨⟨inI_s (by omega) (by omega), inI_s (by omega) (by omega)⟩, fun _ => hq, fun z => absurd z (by omega)⟩
    · intro t ht ih h0
      obtain ⟨N, eN, hNl, hNb⟩ := need_N hW hN h0 ht
      have e : (t + 1).toNat = t.toNat + 1 := by omega
      have et : ((t.toNat : Nat) : Int) = t := by omega
      have ih := ih (by omega)
      rw [e, bts, et, eN, Int.toNat_natCast] at ih
      have l62 : bts (fun q => (h 28 q).toNat.testBit p.toNat) t.toNat < 2 ^ 62 := bts_62 _ (by omega)
      refine sg_X2_neededBy_5 (by omega) ⟨⟨inI_s (by omega) (by omega), inI_s (by omega) (by omega)⟩, fun z => absurd z (by omega), fun _ => ⟨by omega, ?_⟩⟩
      rw [eN]
      refine C_hasPin (by omega) (by omega) (by omega) (fun b => C_pinBit rfl (by omega) ?_) (fun b => ?_)
      · rw [b, if_pos rfl] at ih
        rw [xorL_pow l62 h0 (by omega)]; exact ih
      · rw [b, if_neg (by decide)] at ih; exact ih
  exact sg_X2_neededBy_0 (lp 0 (by omega) (by omega))
theorem need_f4 {s f4 f5 f7 : Int → Int} {p : Int} (hW : WFp s) (hN : ∀ q, 0 ≤ q → q < s 1 → NeedAt s f4 f5 f7 q) (h0 : 0 ≤ p) (h1 : p < s 1) : inL (f4 p) := by
  have w2 := hW.2.1
  have a1 := ah_ok (s := s) (by omega) p (s (35 + p))
  have a2 := ah_ok (s := s) (by omega) p (s (35 + p) + 1)
  rw [(hN p h0 h1).1]
  have one : ∀ (x : Nat) (q : Int), x < 2 ^ 30 → q < 30 → ∃ y : Nat, addN x q = y ∧ y < 2 ^ 30 := by
    intro x q hx hq
    unfold addN
    split
    · exact ⟨x, rfl, hx⟩
    · rw [xorL_bit (by omega) (by omega) (by omega)]
      exact ⟨_, rfl, Nat.or_lt_two_pow hx (two_pow_lt (by omega))⟩
  obtain ⟨y, e, hy⟩ := one 0 _ (by decide) (show ah s p (s (35 + p)) < 30 by omega)
  obtain ⟨y2, e2, hy2⟩ := one y _ hy (show ah s p (s (35 + p) + 1) < 30 by omega)
  have e : addN 0 (ah s p (s (35 + p))) = y := e
  rw [e, e2]; exact inL_62 (by omega)
theorem Q_needs (p k : Int) (hp : inI p) (hk : inI k) {h m : xH} (hR : Rel h m) : QL mX7_needs mX8_needs [.inl p, .inl k] h m := by
  obtain ⟨⟨hW, -⟩, hP, hB, -⟩ := id hR
  obtain ⟨w1, w2, w3, w4, w5, w6, w7, w8⟩ := id hW.1
  have e1 := hP.2.1
  obtain ⟨f4, f5, f7, hf⟩ := need_ex hW.1
  by_cases c1 : 0 ≤ p ∧ p < m 1 1
  · have lf : ∀ r : Int, (k = 0 → r = f4 p) → (k = 1 → r = f5 p) → (k = 2 → r = bts (fun q => (f5 q).toNat.testBit p.toNat) (m 1 1).toNat) → ((k < 0 ∨ 2 < k) → r = -9223372036854775808) → inL r → QL mX7_needs mX8_needs [.inl p, .inl k] h m := by
      intro r r0 r1 r2 r3 hr
      refine ⟨r, hr, ?_, ?_⟩
      · refine sg_X7_needs_0 (by omega) (C_isPin hp (by omega) (fun _ => C_study (by omega) hW.1 hP (fun g kg hN => ?_)) (fun z => absurd (by omega) z))
        have un := need_uniq hW.1 hN hf
        have eg : g 1 2 = m 1 1 := by rw [kg 1 (by decide)]; exact e1
        refine ⟨hk, fun z => ⟨by omega, by rw [r0 z]; exact (un p c1.1 c1.2).1, keepC_need kg⟩, fun z => ⟨by omega, by rw [r1 z]; exact (un p c1.1 c1.2).2.1, keepC_need kg⟩, fun z => ?_, fun z => ⟨(r3 z).symm, keepC_need kg⟩⟩
        rw [eg]
        refine C_neededBy (by omega) hW.1 hN c1 ⟨?_, keepC_need kg⟩
        rw [r2 z]
        congr 1
        exact bts_congr (fun q hq => by rw [(un q (by omega) (by omega)).2.1])
      · by_cases c2 : 0 ≤ k ∧ k ≤ 2
        · refine sg_X8_needs_0 (by omega) (M_isPin (by omega) hp (by omega) (fun _ => ⟨hk, M_isIn (inL_I hk) (by unfold inL; omega) (by unfold inL; omega) (fun _ => M_findsAll (by omega) hW.1 (fun m' km nm => ?_)) (fun z => absurd c2 z)⟩) (fun z => absurd c1 z))
          have em : m' 1 = m 1 := km 1 (by decide)
          have un := need_uniq hW.1 nm hf
          refine ⟨hk, fun z => M_needs2 (by rw [em]; exact hW.1) (by rw [em]; exact nm) (by rw [em]; exact c1) ⟨?_, keepM_need km⟩, fun _ => ⟨hk, fun z => ⟨by omega, by rw [r1 (by omega)]; exact (un p c1.1 c1.2).2.1, keepM_need km⟩, fun z => ⟨by omega, by rw [r0 z]; exact (un p c1.1 c1.2).1, keepM_need km⟩⟩⟩
          rw [r2 (by omega), em]
          congr 1
          exact bts_congr (fun q hq => by rw [(un q (by omega) (by omega)).2.1])
        · exact sg_X8_needs_0 (by omega) (M_isPin (by omega) hp (by omega) (fun _ => ⟨hk, M_isIn (inL_I hk) (by unfold inL; omega) (by unfold inL; omega) (fun z => absurd z c2) (fun _ => ⟨(r3 (by omega)).symm, keepM_rf m⟩)⟩) (fun z => absurd c1 z))
    rcases (show k = 0 ∨ k = 1 ∨ k = 2 ∨ (k < 0 ∨ 2 < k) by omega) with z | z | z | z
    · exact lf (f4 p) (fun _ => rfl) (by omega) (by omega) (by omega) (need_f4 hW.1 hf c1.1 c1.2)
    · obtain ⟨N, e, hl, -⟩ := need_N hW.1 hf c1.1 c1.2
      exact lf (f5 p) (by omega) (fun _ => rfl) (by omega) (by omega) (by rw [e]; exact inL_62 (by omega))
    · exact lf _ (by omega) (by omega) (fun _ => rfl) (by omega) (inL_62 (bts_62 _ (by omega)))
    · exact lf (-9223372036854775808) (by omega) (by omega) (by omega) (fun _ => rfl) (by unfold inL; omega)
  · refine ⟨-9223372036854775808, by unfold inL; omega, ?_, ?_⟩
    · exact sg_X7_needs_0 (by omega) (C_isPin hp (by omega) (fun z => absurd (by omega) c1) (fun _ => ⟨rfl, keepC_rf h⟩))
    · exact sg_X8_needs_0 (by omega) (M_isPin (by omega) hp (by omega) (fun z => absurd z c1) (fun _ => ⟨rfl, keepM_rf m⟩))
/-- what pins(k) tells of a pin -/
def pnP (s f5 : Int → Int) (k p : Int) : Bool := if k = 0 then lks s p else if k = 1 then rdy s f5 p else decide (s (95 + p) = 1)
theorem M_pinsL {d : Nat} {k : Int} {h : xH} {Q : Int → xH → Prop} (hd : 3 ≤ d) (hW : WF (h 1)) (hN : ∀ q, 0 ≤ q → q < h 1 1 → NeedAt (h 1) (h 4) (h 5) (h 7) q) (hk : 0 ≤ k ∧ k ≤ 2) (hq : Q (bts (pnP (h 1) (h 5) k) (h 1 1).toNat) h) : gL wdM d mX8_pins 25 [some (.inr (.inr 0)), some (.inl k), some (.inr (.inl 0)), none, some (.inl 0), none] h Q := by
  obtain ⟨w1, w2, w3, w4, w5, w6, w7, w8⟩ := id hW.1
  have v3 := hW.2.2.2.1
  have lp : ∀ t : Int, t ≤ h 1 1 → 0 ≤ t → gL wdM d mX8_pins 25 [some (.inr (.inr 0)), some (.inl k), some (.inr (.inl (bts (pnP (h 1) (h 5) k) t.toNat))), none, some (.inl t), none] h Q := by
    refine dn ?_ ?_
    · intro _
      exact sg_X8_pins_25 (by omega) ⟨⟨inI_s (by omega) (by omega), inI_s (by omega) (by omega)⟩, fun _ => hq, fun z => absurd z (by omega)⟩
    · intro t ht ih h0
      have e : (t + 1).toNat = t.toNat + 1 := by omega
      have et : ((t.toNat : Nat) : Int) = t := by omega
      have ih := ih (by omega)
      rw [e, bts, et] at ih
      have l62 : bts (pnP (h 1) (h 5) k) t.toNat < 2 ^ 62 := bts_62 _ (by omega)
      have b1 := v3 t h0 (by omega)
      have no : pnP (h 1) (h 5) k t = false → gL wdM d mX8_pins 25 [some (.inr (.inr 0)), some (.inl k), some (.inr (.inl (xorL (bts (pnP (h 1) (h 5) k) t.toNat) 0))), none, some (.inl (t + 1)), none] h Q := fun b => by
        rw [b, if_neg (by decide)] at ih
        rw [xorL_0 l62]; exact ih
      have yes : pnP (h 1) (h 5) k t = true → gL wdM d mX8_pins 25 [some (.inr (.inr 0)), some (.inl k), some (.inr (.inl (xorL (bts (pnP (h 1) (h 5) k) t.toNat) (1 * 2 ^ (Int.toNat t))))), none, some (.inl (t + 1)), none] h Q := fun b => by
        rw [b, if_pos rfl] at ih
        rw [xorL_bit l62 h0 (by omega)]; exact ih
      refine sg_X8_pins_25 (by omega) ⟨⟨inI_s (by omega) (by omega), inI_s (by omega) (by omega)⟩, fun z => absurd z (by omega), fun _ => ⟨inI_s (by omega) (by omega), fun z1 => ⟨inI_s (by omega) (by omega), fun z2 => ⟨by omega, inI_s (by omega) (by omega), fun z3 => no ?_, fun z3 => ⟨by omega, yes ?_⟩⟩, fun z2 => M_isReadyI (by omega) hW hN ⟨h0, ht⟩ ⟨b2i_in _, fun z3 => no ?_, fun z3 => ⟨by omega, yes ?_⟩⟩⟩, fun z1 => M_lacksI (by omega) hW.1 ⟨h0, ht⟩ ⟨b2i_in _, fun z3 => no ?_, fun z3 => ⟨by omega, yes ?_⟩⟩⟩⟩
      · unfold pnP; rw [if_neg z1, if_neg z2]; exact decide_eq_false z3
      · unfold pnP; rw [if_neg z1, if_neg z2]; exact decide_eq_true z3
      · unfold pnP; rw [if_neg z1, if_pos z2]
        cases hb : rdy (h 1) (h 5) t with
        | false => rfl
        | true => rw [hb] at z3; exact absurd z3 (by decide)
      · unfold pnP; rw [if_neg z1, if_pos z2]
        cases hb : rdy (h 1) (h 5) t with
        | true => rfl
        | false => rw [hb] at z3; exact absurd rfl z3
      · unfold pnP; rw [if_pos z1]
        cases hb : lks (h 1) t with
        | false => rfl
        | true => rw [hb] at z3; exact absurd z3 (by decide)
      · unfold pnP; rw [if_pos z1]
        cases hb : lks (h 1) t with
        | true => rfl
        | false => rw [hb] at z3; exact absurd rfl z3
  exact lp 0 (by omega) (by omega)
theorem dnb_bts (s : Int → Int) : ∀ n : Nat, dnb s n = bts (fun p => decide (s (95 + p) = 1)) n := by
  intro n
  induction n with
  | zero => rfl
  | succ n ih =>
    unfold dnb bts
    rw [ih]
    by_cases e : s (95 + n) = 1
    · rw [if_pos e, if_pos (decide_eq_true e)]
    · rw [if_neg e, if_neg (by simp [e])]
theorem Q_pins (k : Int) (hk : inI k) {h m : xH} (hR : Rel h m) : QL mX7_pins mX8_pins [.inl k] h m := by
  obtain ⟨⟨hW, -⟩, hP, hB, -⟩ := id hR
  obtain ⟨w1, w2, w3, w4, w5, w6, w7, w8⟩ := id hW.1
  obtain ⟨f4, f5, f7, hf⟩ := need_ex hW.1
  by_cases c1 : 0 ≤ k ∧ k ≤ 2
  · refine ⟨bts (pnP (m 1) f5 k) (m 1 1).toNat, inL_62 (bts_62 _ (by omega)), ?_, ?_⟩
    · refine sg_X7_pins_0 (by omega) ⟨hk, fun z => C_lackingPins (by omega) hW.1 hP ⟨?_, keepC_rf h⟩, fun z => C_readyPins (by omega) hW hP hB (fun g kg hN => ⟨?_, keepC_need kg⟩), fun z => ⟨?_, keepC_rf h⟩, fun z => absurd c1 (by omega)⟩
      · congr 1
        exact bts_congr (fun q hq => by unfold pnP; rw [if_pos z])
      · have un := need_uniq hW.1 hN hf
        congr 1
        exact bts_congr (fun q hq => by unfold pnP; rw [if_neg (by omega), if_pos z]; exact rdy_congr (un q (by omega) (by omega)).2.1)
      · rw [done_same hW hB, dnb_bts]
        congr 1
        exact bts_congr (fun q hq => by unfold pnP; rw [if_neg (by omega), if_neg (by omega)])
    · refine sg_X8_pins_0 (by omega) ⟨hk, M_isIn (inL_I hk) (by unfold inL; omega) (by unfold inL; omega) (fun _ => M_findsAll (by omega) hW.1 (fun m' km nm => ?_)) (fun z => absurd c1 z)⟩
      have em : m' 1 = m 1 := km 1 (by decide)
      have un := need_uniq hW.1 nm hf
      refine M_pinsL (by omega) (by rw [em]; exact hW) (by rw [em]; exact nm) c1 ⟨?_, keepM_need km⟩
      rw [em]
      congr 1
      refine bts_congr (fun q hq => ?_)
      unfold pnP
      split
      · rfl
      · split
        · exact rdy_congr (un q (by omega) (by omega)).2.1
        · rfl
  · refine ⟨-9223372036854775808, by unfold inL; omega, ?_, ?_⟩
    · exact sg_X7_pins_0 (by omega) ⟨hk, by omega, by omega, by omega, fun _ => ⟨rfl, keepC_rf h⟩⟩
    · exact sg_X8_pins_0 (by omega) ⟨hk, M_isIn (inL_I hk) (by unfold inL; omega) (by unfold inL; omega) (fun z => absurd z c1) (fun _ => ⟨rfl, keepM_rf m⟩)⟩
/-- the greatest of x and the first n of f -/
def mxf (f : Int → Int) (x : Int) : Nat → Int
  | 0 => x
  | n + 1 => max (mxf f x n) (f n)
theorem mxf_in {f : Int → Int} {x : Int} {m : Nat} (hx : -100 ≤ x ∧ x ≤ 100) (hf : ∀ k : Nat, k < m → 0 ≤ f k ∧ f k ≤ 99) : ∀ n : Nat, n ≤ m → -100 ≤ mxf f x n ∧ mxf f x n ≤ 100 := by
  intro n
  induction n with
  | zero => intro _; exact hx
  | succ n ih =>
    intro hn
    have := ih (by omega)
    have := hf n (by omega)
    unfold mxf
    omega
theorem mxf_same {f : Int → Int} {m : Nat} (hf : ∀ k : Nat, k < m → 0 ≤ f k ∧ f k ≤ 99) : ∀ n : Nat, n < m → mxf f 0 (n + 1) = mxf f (-5) (n + 1) := by
  intro n
  induction n with
  | zero => intro h; have := hf 0 h; unfold mxf mxf; have e : f ((0 : Nat) : Int) = f 0 := rfl; omega
  | succ n ih =>
    intro h
    have := ih (by omega)
    rw [mxf, this, ← mxf]
theorem mxf_congr {f g : Int → Int} {x : Int} : ∀ {n : Nat}, (∀ k : Nat, k < n → f k = g k) → mxf f x n = mxf g x n := by
  intro n
  induction n with
  | zero => intro _; rfl
  | succ n ih => intro h; unfold mxf; rw [h n (by omega), ih (fun k hk => h k (by omega))]
theorem Q_deepest {h m : xH} (hR : Rel h m) : QI mX7_deepest mX8_deepest [] h m := by
  obtain ⟨⟨hW, -⟩, hP, hB, -⟩ := id hR
  obtain ⟨w1, w2, w3, w4, w5, w6, w7, w8⟩ := id hW.1
  have e1 := hP.2.1
  obtain ⟨f4, f5, f7, hf⟩ := need_ex hW.1
  have f7b : ∀ k : Nat, k < (m 1 1).toNat → 0 ≤ f7 k ∧ f7 k ≤ 99 := fun k hk => by
    have a := (hf k (by omega) (by omega)).2.2.2
    have := w4 k (by omega) (by omega)
    omega
  have bd := mxf_in (x := -5) (by omega) f7b (m 1 1).toNat (Nat.le_refl _)
  refine ⟨mxf f7 (-5) (m 1 1).toNat, inI_s (by omega) (by omega), ?_, ?_⟩
  · refine sg_X7_deepest_0 (by omega) ⟨inI_s (by omega) (by omega), fun z => C_study (by omega) hW.1 hP (fun g kg hN => ?_), fun z => ⟨?_, keepC_rf h⟩⟩
    · have un := need_uniq hW.1 hN hf
      have eg : g 1 = h 1 := kg 1 (by decide)
      have lp : ∀ t : Int, t ≤ m 1 1 → 0 ≤ t → gI wdC 30 mX7_deepest 28 [some (.inr (.inr 0)), some (.inl (mxf f7 0 t.toNat)), some (.inl t)] g (fun n h' => n = mxf f7 (-5) (m 1 1).toNat ∧ keepC h h') := by
        refine dn ?_ ?_
        · intro _
          refine sg_X7_deepest_28 (by omega) ⟨⟨inI_s (by omega) (by omega), by rw [eg]; exact inI_s (by omega) (by omega)⟩, fun _ => ⟨?_, keepC_need kg⟩, fun q => absurd q (by rw [eg]; omega)⟩
          have ee : (m 1 1).toNat = (m 1 1).toNat - 1 + 1 := by omega
          rw [ee]; exact mxf_same f7b _ (by omega)
        · intro t ht ih h0
          have e : (t + 1).toNat = t.toNat + 1 := by omega
          have et : ((t.toNat : Nat) : Int) = t := by omega
          have ih := ih (by omega)
          rw [e, mxf, et, ← (un t h0 ht).2.2] at ih
          have b0 := mxf_in (x := 0) (by omega) f7b t.toNat (by omega)
          have b1 := f7b t.toNat (by omega)
          rw [et, ← (un t h0 ht).2.2] at b1
          exact sg_X7_deepest_28 (by omega) ⟨⟨inI_s (by omega) (by omega), by rw [eg]; exact inI_s (by omega) (by omega)⟩, fun q => absurd q (by rw [eg]; omega), fun _ => ⟨by omega, ⟨inI_s (by omega) (by omega), inI_s (by omega) (by omega)⟩, ih⟩⟩
      exact lp 0 (by omega) (by omega)
    · rw [show (m 1 1).toNat = 0 by omega]; rfl
  · refine sg_X8_deepest_0 (by omega) (M_findsAll (by omega) hW.1 (fun m' km nm => ?_))
    have em : m' 1 = m 1 := km 1 (by decide)
    have un := need_uniq hW.1 nm hf
    have lp : ∀ t : Int, t ≤ m 1 1 → 0 ≤ t → gI wdM 30 mX8_deepest 9 [some (.inr (.inr 0)), some (.inl (mxf f7 (-5) t.toNat)), some (.inl t)] m' (fun n h' => n = mxf f7 (-5) (m 1 1).toNat ∧ keepM m h') := by
      refine dn ?_ ?_
      · intro _
        exact sg_X8_deepest_9 (by omega) ⟨⟨inI_s (by omega) (by omega), by rw [em]; exact inI_s (by omega) (by omega)⟩, fun _ => ⟨rfl, keepM_need km⟩, fun q => absurd q (by rw [em]; omega)⟩
      · intro t ht ih h0
        have e : (t + 1).toNat = t.toNat + 1 := by omega
        have et : ((t.toNat : Nat) : Int) = t := by omega
        have ih := ih (by omega)
        rw [e, mxf, et, ← (un t h0 ht).2.2] at ih
        have b0 := mxf_in (x := -5) (by omega) f7b t.toNat (by omega)
        have b1 := f7b t.toNat (by omega)
        rw [et, ← (un t h0 ht).2.2] at b1
        exact sg_X8_deepest_9 (by omega) ⟨⟨inI_s (by omega) (by omega), by rw [em]; exact inI_s (by omega) (by omega)⟩, fun q => absurd q (by rw [em]; omega), fun _ => ⟨by omega, ⟨inI_s (by omega) (by omega), inI_s (by omega) (by omega)⟩, ih⟩⟩
    exact lp 0 (by omega) (by omega)
