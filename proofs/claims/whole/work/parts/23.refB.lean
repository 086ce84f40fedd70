/-! the reference: what needs what -/
theorem xorL_bit {a : Nat} {p : Int} (ha : a < 2 ^ 62) (h0 : 0 ≤ p) (h1 : p ≤ 61) : xorL a (1 * 2 ^ (Int.toNat p)) = ((a ||| 2 ^ p.toNat : Nat) : Int) := by
  have h2 : 2 ^ p.toNat < 2 ^ 62 := two_pow_lt (by omega)
  rw [Int.one_mul, pow_nat]
  exact xorL_nat (by omega) (by omega)
theorem xorL_0 {a : Nat} (ha : a < 2 ^ 62) : xorL a 0 = (a : Int) := by
  have := xorL_nat (a := a) (b := 0) (by omega) (by omega)
  rw [Nat.or_zero] at this
  exact this
/-- the pins that are done, as bits -/
def dnb (s : Int → Int) : Nat → Nat
  | 0 => 0
  | p + 1 => if s (95 + p) = 1 then dnb s p ||| 2 ^ p else dnb s p
theorem dnb_bit (s : Int → Int) : ∀ (n i : Nat), (dnb s n).testBit i = decide (i < n ∧ s (95 + i) = 1) := by
  intro n
  induction n with
  | zero => intro i; simp [dnb]
  | succ n ih =>
    intro i
    unfold dnb
    split
    · rename_i h
      rw [or_bit, ih]
      by_cases e : i = n
      · subst e; simp [h]
      · have : (i < n + 1) ↔ (i < n) := by omega
        simp [e, this]
    · rename_i h
      rw [ih]
      by_cases e : i = n
      · subst e; simp [h]
      · have : (i < n + 1) ↔ (i < n) := by omega
        simp [this]
theorem dnb_lt (s : Int → Int) (n : Nat) : dnb s n < 2 ^ n := by
  apply lt_of_bits
  intro i hi
  rw [dnb_bit] at hi
  exact (of_decide_eq_true hi).1
theorem M_done {d : Nat} {h : xH} {Q : Int → xH → Prop} (hn : 0 ≤ h 1 1 ∧ h 1 1 ≤ 30) (hb : ∀ p, 0 ≤ p → p < 30 → h 1 (95 + p) = 0 ∨ h 1 (95 + p) = 1) (hq : Q (dnb (h 1) (h 1 1).toNat) h) : cL wdM d mX8_done [.inr (.inr 0)] h Q := by
  have hlp : ∀ t : Int, t ≤ h 1 1 → 0 ≤ t → gL wdM d mX8_done 4 [some (.inr (.inr 0)), some (.inr (.inl (dnb (h 1) t.toNat))), none, some (.inl t)] h Q := by
    refine dn ?_ ?_
    · intro h0
      exact sg_X8_done_4 ⟨⟨inI_s (by omega) (by omega), inI_s (by omega) (by omega)⟩, fun _ => hq, fun z => absurd z (by omega)⟩
    · intro t ht ih h0
      have e : (t + 1).toNat = t.toNat + 1 := by omega
      have et : ((t.toNat : Nat) : Int) = t := by omega
      have ih := ih (by omega)
      have b1 := hb t h0 (by omega)
      have l1 : dnb (h 1) t.toNat < 2 ^ 62 := Nat.lt_of_lt_of_le (dnb_lt _ _) (two_pow_le (by omega))
      rw [e, dnb, et] at ih
      refine sg_X8_done_4 ⟨⟨inI_s (by omega) (by omega), inI_s (by omega) (by omega)⟩, fun z => absurd z (by omega), fun _ => ⟨by omega, inI_s (by omega) (by omega), fun q => ?_, fun q => ⟨by omega, ?_⟩⟩⟩
      · rw [if_neg q] at ih
        rw [xorL_0 l1]; exact ih
      · rw [if_pos q] at ih
        rw [xorL_bit l1 h0 (by omega)]; exact ih
  exact sg_X8_done_0 (hlp 0 (by omega) (by omega))
/-- the pin of the greatest row below that shares a slot, among the first n; -1 -/
def ahd (s : Int → Int) (p k : Int) : Nat → Int
  | 0 => -1
  | q + 1 => if s (5 + q) < s (5 + p) ∧ (s (35 + q) = k ∨ s (35 + q) + 1 = k) ∧ (ahd s p k q < 0 ∨ s (5 + ahd s p k q) < s (5 + q)) then (q : Int) else ahd s p k q
def ah (s : Int → Int) (p k : Int) : Int := ahd s p k (s 1).toNat
theorem ahd_ok (s : Int → Int) (p k : Int) : ∀ n : Nat, (-1 ≤ ahd s p k n ∧ ahd s p k n < n) ∧ (0 ≤ ahd s p k n → s (5 + ahd s p k n) < s (5 + p) ∧ shr s (ahd s p k n) k) ∧ (∀ q : Nat, q < n → s (5 + q) < s (5 + p) → shr s q k → 0 ≤ ahd s p k n ∧ s (5 + q) ≤ s (5 + ahd s p k n)) := by
  intro n
  induction n with
  | zero => exact ⟨by simp [ahd], by simp [ahd], by omega⟩
  | succ n ih =>
    obtain ⟨i1, i2, i3⟩ := ih
    unfold ahd
    split
    · rename_i h
      refine ⟨by omega, fun _ => ⟨h.1, h.2.1⟩, fun q hq a b => ⟨by omega, ?_⟩⟩
      rcases (show q < n ∨ q = n by omega) with e | e
      · have := i3 q e a b
        rcases h.2.2 with z | z <;> omega
      · rw [e]; exact Int.le_refl _
    · rename_i h
      refine ⟨by omega, i2, fun q hq a b => ?_⟩
      rcases (show q < n ∨ q = n by omega) with e | e
      · exact i3 q e a b
      · subst e
        have : ¬ (ahd s p k q < 0 ∨ s (5 + ahd s p k q) < s (5 + q)) := fun z => h ⟨a, b, z⟩
        omega
theorem ah_ok {s : Int → Int} (hn : 0 ≤ s 1) (p k : Int) : (-1 ≤ ah s p k ∧ ah s p k < s 1) ∧ (0 ≤ ah s p k → s (5 + ah s p k) < s (5 + p) ∧ shr s (ah s p k) k) ∧ (∀ q : Int, 0 ≤ q → q < s 1 → s (5 + q) < s (5 + p) → shr s q k → 0 ≤ ah s p k ∧ s (5 + q) ≤ s (5 + ah s p k)) := by
  obtain ⟨a, b, c⟩ := ahd_ok s p k (s 1).toNat
  have e : (((s 1).toNat : Nat) : Int) = s 1 := by omega
  refine ⟨⟨a.1, by unfold ah; omega⟩, b, fun q h0 h1 h2 h3 => ?_⟩
  have eq : ((q.toNat : Nat) : Int) = q := by omega
  have := c q.toNat (by omega) (by rw [eq]; exact h2) (by rw [eq]; exact h3)
  rw [eq] at this
  exact this
theorem M_ahead {d : Nat} {p k : Int} {h : xH} {Q : Int → xH → Prop} (hd : 1 ≤ d) (hW : WFp (h 1)) (hp : 0 ≤ p ∧ p < h 1 1) (hk : inI k) (hq : Q (ah (h 1) p k) h) : cI wdM d mX8_ahead [.inr (.inr 0), .inl p, .inl k] h Q := by
  obtain ⟨w1, w2, w3, w4, w5, w6, w7, w8⟩ := id hW
  have b0 := w4 p hp.1 hp.2
  have hlp : ∀ t : Int, t ≤ h 1 1 → 0 ≤ t → gI wdM d mX8_ahead 5 [some (.inr (.inr 0)), some (.inl p), some (.inl k), some (.inl (ahd (h 1) p k t.toNat)), some (.inl t)] h Q := by
    refine dn ?_ ?_
    · intro h0
      exact sg_X8_ahead_5 hd ⟨⟨inI_s (by omega) (by omega), inI_s (by omega) (by omega)⟩, fun _ => hq, fun z => absurd z (by omega)⟩
    · intro t ht ih h0
      have e : (t + 1).toNat = t.toNat + 1 := by omega
      have et : ((t.toNat : Nat) : Int) = t := by omega
      have ih := ih (by omega)
      have b1 := w4 t h0 ht
      obtain ⟨c1, c2, c3⟩ := ahd_ok (h 1) p k t.toNat
      rw [e, ahd, et] at ih
      generalize hz : ahd (h 1) p k t.toNat = z at *
      refine sg_X8_ahead_5 hd ⟨⟨inI_s (by omega) (by omega), inI_s (by omega) (by omega)⟩, fun z => absurd z (by omega), fun _ => ⟨by omega, by omega, ⟨inI_s (by omega) (by omega), inI_s (by omega) (by omega)⟩, fun q => ?_, fun q => M_shares (by omega) (by omega) hk (fun q2 => ⟨inI_s (by omega) (by omega), fun q3 => ?_, fun q3 => ⟨by omega, by omega, ⟨inI_s (by omega) (by omega), ?_⟩, fun q4 => ?_, fun q4 => ?_⟩⟩) (fun q2 => ?_)⟩⟩
      · rw [if_neg (by omega)] at ih; exact ih
      · rw [if_pos ⟨q, q2, Or.inl q3⟩] at ih; exact ih
      · have := w4 z q3 (by omega)
        exact inI_s (by omega) (by omega)
      · rw [if_neg (by omega)] at ih; exact ih
      · rw [if_pos ⟨q, q2, Or.inr q4⟩] at ih; exact ih
      · rw [if_neg (fun w => q2 w.2.1)] at ih; exact ih
  exact sg_X8_ahead_0 (hlp 0 (by omega) (by omega))
def addN (x q : Int) : Int := if q < 0 then x else xorL x (1 * 2 ^ (Int.toNat q))
def addA (f : Int → Int) (x q : Int) : Int := if q < 0 then x else xorL x (xorL (1 * 2 ^ (Int.toNat q)) (f q))
def addD (f : Int → Int) (x q : Int) : Int := if q < 0 then x else max x (f q + 1)
/-- the three rows hold at pin p what they should, if they do at the pins that it needs -/
def NeedAt (s f4 f5 f7 : Int → Int) (p : Int) : Prop :=
  f4 p = addN (addN 0 (ah s p (s (35 + p)))) (ah s p (s (35 + p) + 1)) ∧ f5 p = addA f5 (addA f5 0 (ah s p (s (35 + p)))) (ah s p (s (35 + p) + 1)) ∧
  f7 p = addD f7 (addD f7 0 (ah s p (s (35 + p)))) (ah s p (s (35 + p) + 1)) ∧ 0 ≤ f7 p ∧ f7 p ≤ s (5 + p)
theorem addA_congr {f g : Int → Int} {x q : Int} (h : 0 ≤ q → f q = g q) : addA f x q = addA g x q := by
  unfold addA
  split
  · rfl
  · rw [h (by omega)]
theorem addD_congr {f g : Int → Int} {x q : Int} (h : 0 ≤ q → f q = g q) : addD f x q = addD g x q := by
  unfold addD
  split
  · rfl
  · rw [h (by omega)]
theorem NeedAt.congr {s f4 f5 f7 g4 g5 g7 : Int → Int} {p : Int} (hn : 0 ≤ s 1) (h : NeedAt s f4 f5 f7 p) (hp : g4 p = f4 p ∧ g5 p = f5 p ∧ g7 p = f7 p) (ho : ∀ q, 0 ≤ q → q < s 1 → s (5 + q) < s (5 + p) → g5 q = f5 q ∧ g7 q = f7 q) : NeedAt s g4 g5 g7 p := by
  obtain ⟨h1, h2, h3, h4⟩ := h
  obtain ⟨e1, e2, e3⟩ := hp
  have a := ah_ok hn p (s (35 + p))
  have b := ah_ok hn p (s (35 + p) + 1)
  have a5 : 0 ≤ ah s p (s (35 + p)) → g5 (ah s p (s (35 + p))) = f5 (ah s p (s (35 + p))) := fun z => (ho _ z a.1.2 (a.2.1 z).1).1
  have b5 : 0 ≤ ah s p (s (35 + p) + 1) → g5 (ah s p (s (35 + p) + 1)) = f5 (ah s p (s (35 + p) + 1)) := fun z => (ho _ z b.1.2 (b.2.1 z).1).1
  have a7 : 0 ≤ ah s p (s (35 + p)) → g7 (ah s p (s (35 + p))) = f7 (ah s p (s (35 + p))) := fun z => (ho _ z a.1.2 (a.2.1 z).1).2
  have b7 : 0 ≤ ah s p (s (35 + p) + 1) → g7 (ah s p (s (35 + p) + 1)) = f7 (ah s p (s (35 + p) + 1)) := fun z => (ho _ z b.1.2 (b.2.1 z).1).2
  refine ⟨by rw [e1]; exact h1, ?_, ?_, by rw [e3]; exact h4⟩
  · rw [e2, h2, addA_congr (f := g5) (g := f5) b5, addA_congr (f := g5) (g := f5) a5]
  · rw [e3, h3, addD_congr (f := g7) (g := f7) b7, addD_congr (f := g7) (g := f7) a7]
theorem M_finds {d : Nat} {p : Int} {h : xH} {Q : xH → Prop} (hd : 2 ≤ d) (hW : WFp (h 1)) (hp : 0 ≤ p ∧ p < h 1 1) (hpre : ∀ q, 0 ≤ q → q < h 1 1 → h 1 (5 + q) < h 1 (5 + p) → 0 ≤ h 7 q ∧ h 7 q ≤ h 1 (5 + q))
    (hq : ∀ h', kp [4, 5, 7] h h' → (∀ q, q ≠ p → h' 4 q = h 4 q ∧ h' 5 q = h 5 q ∧ h' 7 q = h 7 q) → NeedAt (h 1) (h' 4) (h' 5) (h' 7) p → Q h') : cV wdM d mX8_finds [.inr (.inr 0), .inl p] h Q := by
  obtain ⟨w1, w2, w3, w4, w5, w6, w7, w8⟩ := id hW
  have b0 := w4 p hp.1 hp.2
  have a := ah_ok (s := h 1) (by omega) p (h 1 (35 + p))
  have b := ah_ok (s := h 1) (by omega) p (h 1 (35 + p) + 1)
  -- what holds at the loop's head
  have step : ∀ (k : Int) (x4 x5 x7 : Int) (h1 : xH), 0 ≤ k → k < 2 → kp [4, 5, 7] h h1 → (∀ q, q ≠ p → h1 4 q = h 4 q ∧ h1 5 q = h 5 q ∧ h1 7 q = h 7 q) → h1 4 p = x4 → h1 5 p = x5 → h1 7 p = x7 → 0 ≤ x7 → x7 ≤ h 1 (5 + p) →
      (∀ h2 : xH, kp [4, 5, 7] h h2 → (∀ q, q ≠ p → h2 4 q = h 4 q ∧ h2 5 q = h 5 q ∧ h2 7 q = h 7 q) → h2 4 p = addN x4 (ah (h 1) p (h 1 (35 + p) + k)) → h2 5 p = addA (h 5) x5 (ah (h 1) p (h 1 (35 + p) + k)) → h2 7 p = addD (h 7) x7 (ah (h 1) p (h 1 (35 + p) + k)) → 0 ≤ h2 7 p → h2 7 p ≤ h 1 (5 + p) → gV wdM d mX8_finds 23 [some (.inr (.inr 0)), some (.inl p), some (.inl (k + 1)), none] h2 Q) →
      gV wdM d mX8_finds 23 [some (.inr (.inr 0)), some (.inl p), some (.inl k), none] h1 Q := by
    intro k x4 x5 x7 h1 hk0 hk2 hkp hoth e4 e5 e7 l7 u7 hnext
    have e1 : h1 1 = h 1 := hkp 1 (by decide)
    have c := ah_ok (s := h 1) (by omega) p (h 1 (35 + p) + k)
    refine sg_X8_finds_23 (by omega) ⟨inI_s (by omega) (by omega), fun z => absurd z (by omega), fun _ => ⟨by omega, ?_⟩⟩
    refine M_ahead (by omega) (by rw [e1]; exact hW) (by rw [e1]; exact hp) (by rw [e1]; exact inI_s (by omega) (by omega)) ?_
    rw [e1]
    generalize hr : ah (h 1) p (h 1 (35 + p) + k) = r at *
    refine ⟨inI_s (by omega) (by omega), fun q => ?_, fun q => ?_⟩
    · have c2 := (c.2.1 q)
      have np : r ≠ p := by
        intro z
        rw [z] at c2
        omega
      have c7 := hpre r q (by omega) c2.1
      have o := hoth r np
      have br := w4 r q (by omega)
      refine ⟨by omega, by omega, by omega, by omega, by omega, by omega, by omega, by omega, by omega, ⟨by rw [e7]; exact inI_s (by omega) (by omega), by rw [o.2.2]; exact inI_s (by omega) (by omega)⟩, by omega, ?_⟩
      refine hnext _ ?_ ?_ ?_ ?_ ?_ ?_ ?_
      · exact kp_tr hkp (kp_tr (kp_tr (kp_xu (by decide)) (kp_xu (by decide))) (kp_xu (by decide)))
      · intro z hz
        simp (disch := omega) only [xu_cn, xu_ne]
        exact hoth z hz
      · simp (disch := omega) only [xu_cn, xu_eq, e4]
        unfold addN; rw [if_neg (by omega)]
      · simp (disch := omega) only [xu_cn, xu_eq, e5]
        unfold addA; rw [if_neg (by omega), o.2.1]
      · simp (disch := omega) only [xu_eq, e7]
        unfold addD; rw [if_neg (by omega), o.2.2]
      · simp (disch := omega) only [xu_eq, e7]
        omega
      · simp (disch := omega) only [xu_eq, e7]
        rw [o.2.2]
        omega
    · refine hnext _ hkp hoth ?_ ?_ ?_ ?_ ?_
      · unfold addN; rw [if_pos q]; exact e4
      · unfold addA; rw [if_pos q]; exact e5
      · unfold addD; rw [if_pos q]; exact e7
      · omega
      · omega
  refine sg_X8_finds_0 ⟨by omega, by omega, by omega, ?_⟩
  refine step 0 0 0 0 _ (by omega) (by omega) (kp_tr (kp_tr (kp_xu (by decide)) (kp_xu (by decide))) (kp_xu (by decide))) ?_ ?_ ?_ ?_ (by omega) (by omega) ?_
  · intro z hz
    simp (disch := omega) only [xu_cn, xu_ne]
    simp
  · simp (disch := omega) only [xu_cn, xu_eq]
  · simp (disch := omega) only [xu_cn, xu_eq]
  · simp (disch := omega) only [xu_eq]
  · intro h2 k2 o2 f4 f5 f7 g0 g1
    rw [Int.add_zero] at f4 f5 f7
    refine step (0 + 1) _ _ _ h2 (by omega) (by omega) k2 o2 f4 f5 f7 (by omega) (by omega) ?_
    intro h3 k3 o3 f4' f5' f7' g0' g1'
    refine sg_X8_finds_23 (by omega) ⟨inI_s (by omega) (by omega), fun _ => hq h3 k3 o3 ?_, fun z => absurd z (by omega)⟩
    rw [show h 1 (35 + p) + (0 + 1) = h 1 (35 + p) + 1 by omega] at f4' f5' f7'
    have na : 0 ≤ ah (h 1) p (h 1 (35 + p)) → ah (h 1) p (h 1 (35 + p)) ≠ p := fun z w => by
      have := (a.2.1 z).1
      rw [w] at this; omega
    have nb : 0 ≤ ah (h 1) p (h 1 (35 + p) + 1) → ah (h 1) p (h 1 (35 + p) + 1) ≠ p := fun z w => by
      have := (b.2.1 z).1
      rw [w] at this; omega
    refine ⟨f4', ?_, ?_, g0', g1'⟩
    · rw [f5', addA_congr (f := h3 5) (g := h 5) (fun z => (o3 _ (nb z)).2.1), addA_congr (f := h3 5) (g := h 5) (fun z => (o3 _ (na z)).2.1)]
    · rw [f7', addD_congr (f := h3 7) (g := h 7) (fun z => (o3 _ (nb z)).2.2), addD_congr (f := h3 7) (g := h 7) (fun z => (o3 _ (na z)).2.2)]
