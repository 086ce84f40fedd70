/-! the reference: needs of all pins, ready pins -/
theorem M_findsAll {d : Nat} {h : xH} {Q : xH → Prop} (hd : 3 ≤ d) (hW : WFp (h 1))
    (hq : ∀ h', kp [4, 5, 7] h h' → (∀ q, 0 ≤ q → q < h 1 1 → NeedAt (h 1) (h' 4) (h' 5) (h' 7) q) → Q h') : cV wdM d mX8_findsAll [.inr (.inr 0)] h Q := by
  obtain ⟨w1, w2, w3, w4, w5, w6, w7, w8⟩ := id hW
  have outer : ∀ r : Int, r ≤ 100 → 0 ≤ r → ∀ h1 : xH, kp [4, 5, 7] h h1 → (∀ q, 0 ≤ q → q < h 1 1 → h 1 (5 + q) < r → NeedAt (h 1) (h1 4) (h1 5) (h1 7) q) → gV wdM d mX8_findsAll 2 [some (.inr (.inr 0)), some (.inl r), none] h1 Q := by
    refine dn ?_ ?_
    · intro _ h1 hk hn
      refine sg_X8_findsAll_2 ⟨inI_s (by omega) (by omega), fun _ => hq h1 hk (fun q a b => hn q a b ?_), fun z => absurd z (by omega)⟩
      have := w4 q a b
      omega
    · intro r hr ih h0 h1 hk hn
      have inner : ∀ t : Int, t ≤ h 1 1 → 0 ≤ t → ∀ h2 : xH, kp [4, 5, 7] h h2 → (∀ q, 0 ≤ q → q < h 1 1 → (h 1 (5 + q) < r ∨ h 1 (5 + q) = r ∧ q < t) → NeedAt (h 1) (h2 4) (h2 5) (h2 7) q) → gV wdM d mX8_findsAll 10 [some (.inr (.inr 0)), some (.inl r), some (.inl t)] h2 Q := by
        refine dn ?_ ?_
        · intro _ h2 hk2 hn2
          have e1 : h2 1 = h 1 := hk2 1 (by decide)
          rw [show h 1 1 = h2 1 1 by rw [e1]]
          refine sg_X8_findsAll_10 (by omega) ⟨⟨by rw [e1]; exact inI_s (by omega) (by omega), by rw [e1]; exact inI_s (by omega) (by omega)⟩, fun _ => ih (by omega) h2 hk2 (fun q a b c => hn2 q a b (by omega)), fun z => absurd z (by omega)⟩
        · intro t ht iht h0t h2 hk2 hn2
          have e1 : h2 1 = h 1 := hk2 1 (by decide)
          have bt := w4 t h0t ht
          refine sg_X8_findsAll_10 (by omega) ⟨⟨inI_s (by omega) (by omega), by rw [e1]; exact inI_s (by omega) (by omega)⟩, fun z => absurd z (by rw [e1]; omega), fun _ => ⟨by omega, ⟨by rw [e1]; exact inI_s (by omega) (by omega), inI_s (by omega) (by omega)⟩, fun q => ?_, fun q => ?_⟩⟩
          · rw [e1] at q
            exact iht (by omega) h2 hk2 (fun z a b c => hn2 z a b (by
              rcases c with c | c
              · exact Or.inl c
              · rcases (show z < t ∨ z = t by omega) with g | g
                · exact Or.inr ⟨c.1, g⟩
                · rw [g] at c; exact absurd c.1 q))
          · rw [e1] at q
            refine M_finds (by omega) (by rw [e1]; exact hW) (by rw [e1]; omega) (fun z a b c => ?_) (fun h3 k3 o3 na => ?_)
            · rw [e1] at b c ⊢
              exact (hn2 z a b (by omega)).2.2.2
            · rw [e1] at na
              refine iht (by omega) h3 (kp_tr hk2 k3) (fun z a b c => ?_)
              by_cases g : z = t
              · rw [g]; exact na
              · refine (hn2 z a b (by omega)).congr (by omega) (o3 z g) (fun y a2 b2 c2 => ?_)
                exact (o3 y (fun w => by rw [w] at c2; omega)).2
      refine sg_X8_findsAll_2 ⟨inI_s (by omega) (by omega), fun z => absurd z (by omega), fun _ => inner 0 (by omega) (by omega) h1 hk (fun q a b c => hn q a b (by omega))⟩
  exact sg_X8_findsAll_0 (outer 0 (by omega) (by omega) h (kp_rf _ _) (fun q a b c => by have := w4 q a b; omega))
/-- needAll of a pin: bits of pins of lesser rows -/
theorem need_bits {s f4 f5 f7 : Int → Int} (hW : WFp s) (hN : ∀ q, 0 ≤ q → q < s 1 → NeedAt s f4 f5 f7 q) : ∀ (r : Nat) (p : Int), 0 ≤ p → p < s 1 → s (5 + p) < r → ∃ N : Nat, f5 p = N ∧ ∀ i : Nat, N.testBit i = true → (i : Int) < s 1 ∧ s (5 + i) < s (5 + p) := by
  obtain ⟨w1, w2, w3, w4, w5, w6, w7, w8⟩ := id hW
  intro r
  induction r with
  | zero => intro p h0 h1 h2; have := w4 p h0 h1; omega
  | succ r ih =>
    intro p h0 h1 h2
    have one : ∀ (x : Nat) (q : Int), (q < s 1) → (0 ≤ q → s (5 + q) < s (5 + p)) → (∀ i : Nat, x.testBit i = true → (i : Int) < s 1 ∧ s (5 + i) < s (5 + p)) → ∃ N : Nat, addA f5 x q = N ∧ ∀ i : Nat, N.testBit i = true → (i : Int) < s 1 ∧ s (5 + i) < s (5 + p) := by
      intro x q hq hr hx
      unfold addA
      split
      · exact ⟨x, rfl, hx⟩
      · rename_i hn
        obtain ⟨N, e, hb⟩ := ih q (by omega) hq (by have := hr (by omega); omega)
        have hx30 : x < 2 ^ 30 := lt_of_bits (fun i hi => by have := (hx i hi).1; omega)
        have hN30 : N < 2 ^ 30 := lt_of_bits (fun i hi => by have := (hb i hi).1; omega)
        have hq30 : 2 ^ q.toNat < 2 ^ 30 := two_pow_lt (by omega)
        have ho : 2 ^ q.toNat ||| N < 2 ^ 30 := Nat.or_lt_two_pow hq30 hN30
        rw [e, Int.one_mul, pow_nat, xorL_nat (by omega) (by omega), xorL_nat (by omega) (by omega)]
        refine ⟨_, rfl, fun i hi => ?_⟩
        rw [Nat.testBit_or, Nat.testBit_or, Nat.testBit_two_pow] at hi
        have hlt := hr (by omega)
        simp only [Bool.or_eq_true, decide_eq_true_eq] at hi
        rcases hi with hi | hi | hi
        · exact hx i hi
        · subst hi
          have e2 : ((q.toNat : Nat) : Int) = q := by omega
          rw [e2]; exact ⟨hq, hlt⟩
        · have := hb i hi
          exact ⟨this.1, by omega⟩
    have a := ah_ok (s := s) (by omega) p (s (35 + p))
    have b := ah_ok (s := s) (by omega) p (s (35 + p) + 1)
    obtain ⟨N1, e1, b1⟩ := one 0 _ a.1.2 (fun z => (a.2.1 z).1) (fun i hi => by simp at hi)
    obtain ⟨N2, e2, b2⟩ := one N1 _ b.1.2 (fun z => (b.2.1 z).1) b1
    refine ⟨N2, ?_, b2⟩
    rw [(hN p h0 h1).2.1, ← e2, ← e1]
    rfl
theorem need_N {s f4 f5 f7 : Int → Int} (hW : WFp s) (hN : ∀ q, 0 ≤ q → q < s 1 → NeedAt s f4 f5 f7 q) {p : Int} (h0 : 0 ≤ p) (h1 : p < s 1) : ∃ N : Nat, f5 p = N ∧ N < 2 ^ 30 ∧ ∀ i : Nat, N.testBit i = true → (i : Int) < s 1 ∧ s (5 + i) < s (5 + p) := by
  have := hW.2.2.2.1 p h0 h1
  obtain ⟨N, e, hb⟩ := need_bits hW hN 100 p h0 h1 (by omega)
  have h30 := hW.2.1
  exact ⟨N, e, lt_of_bits (fun i hi => by have := (hb i hi).1; omega), hb⟩
/-- two solutions are the same -/
theorem need_uniq {s f4 f5 f7 g4 g5 g7 : Int → Int} (hW : WFp s) (hN : ∀ q, 0 ≤ q → q < s 1 → NeedAt s f4 f5 f7 q) (hM : ∀ q, 0 ≤ q → q < s 1 → NeedAt s g4 g5 g7 q) : ∀ p, 0 ≤ p → p < s 1 → f4 p = g4 p ∧ f5 p = g5 p ∧ f7 p = g7 p := by
  obtain ⟨w1, w2, w3, w4, w5, w6, w7, w8⟩ := id hW
  have key : ∀ (r : Nat) (p : Int), 0 ≤ p → p < s 1 → s (5 + p) < r → f4 p = g4 p ∧ f5 p = g5 p ∧ f7 p = g7 p := by
    intro r
    induction r with
    | zero => intro p h0 h1 h2; have := w4 p h0 h1; omega
    | succ r ih =>
      intro p h0 h1 h2
      have a := ah_ok (s := s) (by omega) p (s (35 + p))
      have b := ah_ok (s := s) (by omega) p (s (35 + p) + 1)
      obtain ⟨n1, n2, n3, n4⟩ := hN p h0 h1
      obtain ⟨m1, m2, m3, m4⟩ := hM p h0 h1
      have ia : 0 ≤ ah s p (s (35 + p)) → f5 (ah s p (s (35 + p))) = g5 (ah s p (s (35 + p))) ∧ f7 (ah s p (s (35 + p))) = g7 (ah s p (s (35 + p))) := fun z => (ih _ z a.1.2 (by have := (a.2.1 z).1; omega)).2
      have ib : 0 ≤ ah s p (s (35 + p) + 1) → f5 (ah s p (s (35 + p) + 1)) = g5 (ah s p (s (35 + p) + 1)) ∧ f7 (ah s p (s (35 + p) + 1)) = g7 (ah s p (s (35 + p) + 1)) := fun z => (ih _ z b.1.2 (by have := (b.2.1 z).1; omega)).2
      refine ⟨by rw [n1, m1], ?_, ?_⟩
      · rw [n2, m2, addA_congr (f := f5) (g := g5) (fun z => (ib z).1), addA_congr (f := f5) (g := g5) (fun z => (ia z).1)]
      · rw [n3, m3, addD_congr (f := f7) (g := g7) (fun z => (ib z).2), addD_congr (f := f7) (g := g7) (fun z => (ia z).2)]
  intro p h0 h1
  have := w4 p h0 h1
  exact key 100 p h0 h1 (by omega)
/-- whether a pin is ready, by the row of needs -/
def rdy (s f5 : Int → Int) (p : Int) : Bool := decide (s (95 + p) = 0) && (!lks s p && decide (wo (f5 p).toNat (dnb s (s 1).toNat) = 0))
theorem M_isReadyI {d : Nat} {p : Int} {h : xH} {Q : Int → xH → Prop} (hd : 2 ≤ d) (hW : WF (h 1)) (hN : ∀ q, 0 ≤ q → q < h 1 1 → NeedAt (h 1) (h 4) (h 5) (h 7) q) (hp : 0 ≤ p ∧ p < h 1 1) (hq : Q (b2i (rdy (h 1) (h 5) p)) h) : cI wdM d mX8_isReady [.inr (.inr 0), .inl p] h Q := by
  obtain ⟨w1, w2, w3, w4, w5, w6, w7, w8⟩ := id hW.1
  obtain ⟨v1, v2, v3, v4, v5⟩ := id hW.2
  have b0 := v3 p hp.1 (by omega)
  obtain ⟨N, e, hl, hb⟩ := need_N hW.1 hN hp.1 hp.2
  have hdl : dnb (h 1) (h 1 1).toNat < 2 ^ 30 := Nat.lt_of_lt_of_le (dnb_lt _ _) (two_pow_le (by omega))
  unfold rdy at hq
  refine sg_X8_isReady_0 (by omega) ⟨by omega, inI_s (by omega) (by omega), fun q => ?_, fun q => M_lacks (by omega) hW.1 hp (fun b => ?_) (fun b => ⟨by omega, M_done ⟨w2.1, w2.2⟩ v3 ?_⟩)⟩
  · rw [decide_eq_false q, Bool.false_and] at hq; exact hq
  · rw [b, Bool.not_true, Bool.false_and, Bool.and_false] at hq; exact hq
  · rw [e, xandL_wo (by omega) (by omega)]
    have hwl : wo N (dnb (h 1) (h 1 1).toNat) < 2 ^ 30 := wo_lt hl
    rw [decide_eq_true q, b, e, Int.toNat_natCast] at hq
    refine ⟨by unfold inL; omega, fun z => ?_, fun z => ?_⟩
    · rw [decide_eq_false (by omega)] at hq; exact hq
    · rw [decide_eq_true (by omega)] at hq; exact hq
theorem M_isReady {d : Nat} {p : Int} {h : xH} {T F : xH → Prop} (hd : 2 ≤ d) (hW : WF (h 1)) (hN : ∀ q, 0 ≤ q → q < h 1 1 → NeedAt (h 1) (h 4) (h 5) (h 7) q) (hp : 0 ≤ p ∧ p < h 1 1) (ht : rdy (h 1) (h 5) p = true → T h) (hf : rdy (h 1) (h 5) p = false → F h) : cB wdM d mX8_isReady [.inr (.inr 0), .inl p] h T F :=
  cB_of (b := rdy (h 1) (h 5) p) (fun _ hq => M_isReadyI hd hW hN hp hq) ht hf
