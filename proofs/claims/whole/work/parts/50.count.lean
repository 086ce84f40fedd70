/-! turns in their order: hangs and outs -/
def TS (T s : Int → Int) : Prop := (∀ t, 0 ≤ t → t < s 2 → 0 ≤ T t ∧ T t < 1600 ∧ T t % 16 < s 0) ∧ (∀ t u, 0 ≤ t → t < u → u < s 2 → T t < T u) ∧ (∀ a, tst (fun t => cvT (T t)) (s 2) a ↔ tst (fun t => s (137 + t)) (s 2) a)
theorem TS_of {h : xH} {s : Int → Int} (hW : WFp s) (hR : RPat h 1 2 3 4 5 s) : TS (h 5) s := ⟨hR.2.2.2.2.2.1, hR.2.2.2.2.2.2.1, fun a => hR.tst hW a⟩
def full (s T : Int → Int) (t : Int) : Bool := isF s (T t % 16) (T t / 16)
def hg (s T : Int → Int) : Nat → Int
  | 0 => 0
  | n + 1 => hg s T n + b2i (full s T n)
theorem hg_in (s T : Int → Int) : ∀ n : Nat, 0 ≤ hg s T n ∧ hg s T n ≤ n := by
  intro n
  induction n with
  | zero => exact ⟨Int.le_refl _, Int.le_refl _⟩
  | succ n ih =>
    unfold hg
    have := b2i_01 (full s T n)
    omega
theorem hg_mono (s T : Int → Int) : ∀ n k : Nat, hg s T n ≤ hg s T (n + k) ∧ hg s T (n + k) ≤ hg s T n + k := by
  intro n k
  induction k with
  | zero => exact ⟨Int.le_refl _, by simp⟩
  | succ k ih =>
    have e : hg s T (n + (k + 1)) = hg s T (n + k) + b2i (full s T ((n + k : Nat) : Int)) := rfl
    rw [e]
    have := b2i_01 (full s T ((n + k : Nat) : Int))
    omega
theorem hg_lt (s T : Int → Int) {a b : Nat} (h : a < b) : hg s T a + b2i (full s T a) ≤ hg s T b ∧ hg s T b - hg s T a ≤ (b : Int) - a - (1 - b2i (full s T a)) := by
  have := hg_mono s T (a + 1) (b - (a + 1))
  rw [show a + 1 + (b - (a + 1)) = b by omega] at this
  rw [hg] at this
  omega
theorem M_findsTurns {d : Nat} {h : xH} {T : Int → Int} {Q : xH → Prop} (hd : 1 ≤ d) (hW : WFp (h 1)) (hT : TS T (h 1))
    (hq : ∀ h', kp [0, 10, 11] h h' → (∀ i, i ≠ 15 → i ≠ 16 → h' 0 i = h 0 i) → h' 0 15 = hg (h 1) T (h 1 2).toNat → h' 0 16 = h 1 2 - hg (h 1) T (h 1 2).toNat → (∀ t : Nat, (t : Int) < h 1 2 → full (h 1) T t = true → h' 10 (hg (h 1) T t) = cvT (T t)) → (∀ t : Nat, (t : Int) < h 1 2 → full (h 1) T t = false → h' 11 (t - hg (h 1) T t) = cvT (T t)) → Q h') : cV wdM d mX8_findsTurns [.inr (.inr 0)] h Q := by
  obtain ⟨w1, w2, w3, w4, w5, w6, w7, w8⟩ := id hW
  obtain ⟨t1, t2, t3⟩ := hT
  generalize hs : h 1 = s at *
  -- what holds when turns below x were seen, c of them
  have main : ∀ row : Int, row ≤ 100 → 0 ≤ row → ∀ (c : Nat) (h1 : xH), (c : Int) ≤ s 2 → kp [0, 10, 11] h h1 → (∀ i, i ≠ 15 → i ≠ 16 → h1 0 i = h 0 i) → h1 0 15 = hg s T c → h1 0 16 = c - hg s T c → (∀ t : Nat, t < c → full s T t = true → h1 10 (hg s T t) = cvT (T t)) → (∀ t : Nat, t < c → full s T t = false → h1 11 (t - hg s T t) = cvT (T t)) → (∀ t : Nat, t < c → T t < 16 * row) → (∀ t : Nat, c ≤ t → (t : Int) < s 2 → 16 * row ≤ T t) → gV wdM d mX8_findsTurns 12 [some (.inr (.inr 0)), some (.inl row), none] h1 Q := by
    refine dn ?_ ?_
    · intro _ c h1 hc k g0 g1 g2 g3 g4 g5 g6
      have ec : (s 2).toNat = c := by
        by_cases z : (c : Int) < s 2
        · have := g6 c (by omega) z
          have := t1 c (by omega) z
          omega
        · omega
      exact sg_X8_findsTurns_12 ⟨inI_s (by omega) (by omega), fun _ => hq h1 k g0 (by rw [ec]; exact g1) (by rw [ec, g2]; omega) (fun t a b => g3 t (by omega) b) (fun t a b => g4 t (by omega) b), fun z => absurd z (by omega)⟩
    · intro row hrow ih row0 c h1 hc k g0 g1 g2 g3 g4 g5 g6
      have ih := ih (by omega)
      refine sg_X8_findsTurns_12 ⟨inI_s (by omega) (by omega), fun z => absurd z (by omega), fun _ => ?_⟩
      have inn : ∀ sl : Int, sl ≤ s 0 → 0 ≤ sl → ∀ (c : Nat) (h1 : xH), (c : Int) ≤ s 2 → kp [0, 10, 11] h h1 → (∀ i, i ≠ 15 → i ≠ 16 → h1 0 i = h 0 i) → h1 0 15 = hg s T c → h1 0 16 = c - hg s T c → (∀ t : Nat, t < c → full s T t = true → h1 10 (hg s T t) = cvT (T t)) → (∀ t : Nat, t < c → full s T t = false → h1 11 (t - hg s T t) = cvT (T t)) → (∀ t : Nat, t < c → T t < 16 * row + sl) → (∀ t : Nat, c ≤ t → (t : Int) < s 2 → 16 * row + sl ≤ T t) → gV wdM d mX8_findsTurns 20 [some (.inr (.inr 0)), some (.inl row), some (.inl sl)] h1 Q := by
        refine dn ?_ ?_
        · intro _ c h1 hc k g0 g1 g2 g3 g4 g5 g6
          have e1 : h1 1 = s := by rw [k 1 (by decide)]; exact hs
          refine sg_X8_findsTurns_20 (by omega) ?_
          rw [e1]
          refine ⟨⟨inI_s (by omega) (by omega), inI_s (by omega) (by omega)⟩, fun _ => ih c h1 hc k g0 g1 g2 g3 g4 (fun t a => ?_) (fun t a b => ?_), fun z => absurd z (by omega)⟩
          · have := g5 t a; omega
          · have := g6 t a b
            have := t1 t (by omega) b
            omega
        · intro sl hsl ihs sl0 c h1 hc k g0 g1 g2 g3 g4 g5 g6
          have ihs := ihs (by omega)
          have e1 : h1 1 = s := by rw [k 1 (by decide)]; exact hs
          have hc0 := hg_in s T c
          refine sg_X8_findsTurns_20 (by omega) ?_
          rw [e1]
          refine ⟨⟨inI_s (by omega) (by omega), inI_s (by omega) (by omega)⟩, fun z => absurd z (by omega), fun _ => M_hasTurn (by rw [e1]; exact hW) (inI_s (by omega) (by omega)) (fun b hb => ?_)⟩
          rw [e1] at hb
          -- the turn is there if the next one is it
          have hx : (∃ t, 0 ≤ t ∧ t < s 2 ∧ s (137 + t) = 100 * sl + row) ↔ ((c : Int) < s 2 ∧ T c = 16 * row + sl) := by
            have y := t3 (100 * sl + row)
            constructor
            · intro z
              obtain ⟨t, a0, a1, e⟩ := y.mpr z
              have e : cvT (T t) = 100 * sl + row := e
              have tb := t1 t a0 a1
              have et : T t = 16 * row + sl := by
                have := cvT_code (k := sl) (r := row) (by omega)
                have := cvT_inj ⟨tb.1, tb.2.1⟩ (by omega) (e.trans this.symm)
                omega
              have nc : ¬ t.toNat < c := fun w => by
                have := g5 t.toNat w
                rw [show ((t.toNat : Nat) : Int) = t by omega] at this
                omega
              by_cases w : t = c
              · rw [← w]; exact ⟨a1, et⟩
              · have := t2 c t (by omega) (by omega) a1
                have := g6 c (by omega) (by omega)
                omega
            · intro ⟨a, e⟩
              refine y.mp ⟨c, by omega, a, ?_⟩
              show cvT (T c) = _
              rw [e]
              unfold cvT
              omega
          cases b with
          | false =>
            have no : ¬ ((c : Int) < s 2 ∧ T c = 16 * row + sl) := fun z => by have := hb.mpr (hx.mpr z); cases this
            refine Or.inr ⟨rfl, ihs c h1 hc k g0 g1 g2 g3 g4 (fun t a => ?_) (fun t a b => ?_)⟩
            · have := g5 t a; omega
            · have := g6 t a b
              by_cases w : t = c
              · rw [w] at b this ⊢; omega
              · have := t2 c t (by omega) (by omega) b
                have := g6 c (by omega) (by omega)
                omega
          | true =>
            obtain ⟨hcl, hce⟩ := hx.mp (hb.mp rfl)
            have m5 : T c % 16 = sl := by omega
            have m6 : T c / 16 = row := by omega
            have f5 : ∀ t : Nat, t < c + 1 → T t < 16 * row + (sl + 1) := fun t a => by
              by_cases w : t = c
              · rw [w]; omega
              · have := g5 t (by omega); omega
            have f6 : ∀ t : Nat, c + 1 ≤ t → (t : Int) < s 2 → 16 * row + (sl + 1) ≤ T t := fun t a b => by
              have := t2 c t (by omega) (by omega) b; omega
            have cv : cvT (T c) = 100 * sl + row := by unfold cvT; omega
            refine Or.inl ⟨rfl, M_isFilled (by rw [e1]; exact hW) (by omega) (inI_s (by omega) (by omega)) (fun b => ?_) (fun b => ?_)⟩
            · rw [e1] at b
              have fc : full s T c = true := by unfold full; rw [m5, m6]; exact b
              have hs1 : hg s T (c + 1) = hg s T c + 1 := by rw [hg, fc]; rfl
              rw [g1]
              refine ⟨by omega, ihs (c + 1) _ (by omega) (kp_tr k (kp_tr (kp_xu (by decide)) (kp_xu (by decide)))) (fun i a b => by rw [xu_ne a, xu_cn (by decide)]; exact g0 i a b) (by rw [xu_eq, hs1]) ?_ (fun t a b => ?_) (fun t a b => ?_) f5 f6⟩
              · rw [xu_ne (by decide), xu_cn (by decide), g2, hs1]; omega
              · rw [xu_cn (by decide)]
                by_cases w : t = c
                · rw [w, xu_eq, cv]
                · have := (hg_lt s T (a := t) (b := c) (by omega)).1
                  rw [b] at this
                  rw [xu_ne (by have : b2i true = 1 := rfl; omega)]
                  exact g3 t (by omega) b
              · rw [xu_cn (by decide), xu_cn (by decide)]
                by_cases w : t = c
                · rw [w, fc] at b; cases b
                · exact g4 t (by omega) b
            · rw [e1] at b
              have fc : full s T c = false := by unfold full; rw [m5, m6]; exact b
              have hs1 : hg s T (c + 1) = hg s T c := by rw [hg, fc]; exact Int.add_zero _
              rw [g2]
              refine ⟨by omega, ihs (c + 1) _ (by omega) (kp_tr k (kp_tr (kp_xu (by decide)) (kp_xu (by decide)))) (fun i a b => by rw [xu_ne b, xu_cn (by decide)]; exact g0 i a b) (by rw [xu_ne (by decide), xu_cn (by decide), g1, hs1]) ?_ (fun t a b => ?_) (fun t a b => ?_) f5 f6⟩
              · rw [xu_eq, hs1]; omega
              · rw [xu_cn (by decide), xu_cn (by decide)]
                by_cases w : t = c
                · rw [w, fc] at b; cases b
                · exact g3 t (by omega) b
              · rw [xu_cn (by decide)]
                by_cases w : t = c
                · rw [w, xu_eq, cv]
                · have := (hg_lt s T (a := t) (b := c) (by omega)).2
                  rw [b] at this
                  rw [xu_ne (by have : b2i false = 0 := rfl; omega)]
                  exact g4 t (by omega) b
      exact inn 0 (by omega) (by omega) c h1 hc k g0 g1 g2 g3 g4 (fun t a => by have := g5 t a; omega) (fun t a b => by have := g6 t a b; omega)
  refine sg_X8_findsTurns_0 (main 0 (by omega) (by omega) 0 _ (by omega) (kp_tr (kp_xu (by decide)) (kp_xu (by decide))) (fun i a b => by rw [xu_ne b, xu_ne a]) ?_ ?_ (fun t a => by omega) (fun t a => by omega) (fun t a => by omega) (fun t a b => ?_))
  · rw [xu_ne (by decide), xu_eq]; rfl
  · rw [xu_eq]; rfl
  · have := t1 t (by omega) b; omega
theorem C_turnsFull {d : Nat} {t : Int} {h : xH} {s : Int → Int} {Q : Int → xH → Prop} (hd : 2 ≤ d) (hW : WFp s) (hR : RPat h 1 2 3 4 5 s) (ht : 0 ≤ t ∧ t < s 2) (hq : Q (b2i (full s (h 5) t)) h) : cI wdC d mX3_turnsFull [.inr (.inr 1), .inl t] h Q := by
  have w3 := hW.2.2.1
  have a := hR.2.2.2.2.2.1 t ht.1 ht.2
  exact sg_X3_turnsFull_0 (by omega) ⟨by omega, C_slotOfTurn ⟨a.1, a.2.1⟩ ⟨by omega, C_rowOfTurn ⟨a.1, a.2.1⟩ (C_isFilledI (by omega) hW hR (by omega) (inI_s (by omega) (by omega)) ⟨b2i_01 _, hq⟩)⟩⟩
theorem C_turnsInto {d : Nat} {b : Bool} {h : xH} {s : Int → Int} {Q : Int → xH → Prop} (hd : 3 ≤ d) (hW : WFp s) (hR : RPat h 1 2 3 4 5 s) (hq : Q (if b then hg s (h 5) (s 2).toNat else s 2 - hg s (h 5) (s 2).toNat) h) : cI wdC d mX3_turnsInto [.inr (.inr 1), .inl (b2i b)] h Q := by
  have w3 := hW.2.2.1
  have q3 := hR.2.2.1
  have lp : ∀ t : Int, t ≤ s 2 → 0 ≤ t → gI wdC d mX3_turnsInto 4 [some (.inr (.inr 1)), some (.inl (b2i b)), some (.inl (if b then hg s (h 5) t.toNat else t - hg s (h 5) t.toNat)), some (.inl t)] h Q := by
    refine dn ?_ ?_
    · intro _
      refine sg_X3_turnsInto_4 (by omega) ?_
      rw [q3]
      exact ⟨⟨inI_s (by omega) (by omega), inI_s (by omega) (by omega)⟩, fun _ => hq, fun z => absurd z (by omega)⟩
    · intro t ht ih t0
      have et : ((t.toNat : Nat) : Int) = t := by omega
      have ih := ih (by omega)
      rw [show (t + 1).toNat = t.toNat + 1 by omega] at ih
      simp only [hg, et] at ih
      refine sg_X3_turnsInto_4 (by omega) ?_
      rw [q3]
      refine ⟨⟨inI_s (by omega) (by omega), inI_s (by omega) (by omega)⟩, fun z => absurd z (by omega), fun _ => C_turnsFull (by omega) hW hR ⟨t0, ht⟩ ⟨⟨b2i_in _, b2i_in _⟩, fun z => ?_, fun z => ?_⟩⟩
      · cases hf : full s (h 5) t <;> cases b <;> rw [hf] at ih z <;> simp only [b2i, if_true, Bool.false_eq_true, if_false, Int.add_zero] at ih z ⊢
        · exact absurd trivial (by simpa using z)
        · exact ih
        · rw [show t + 1 - (hg s (h 5) t.toNat + 1) = t - hg s (h 5) t.toNat by omega] at ih; exact ih
        · exact absurd trivial (by simpa using z)
      · cases hf : full s (h 5) t <;> cases b <;> rw [hf] at ih z <;> simp only [b2i, if_true, Bool.false_eq_true, if_false, Int.add_zero] at ih z ⊢
        · rw [show t + 1 - hg s (h 5) t.toNat = t - hg s (h 5) t.toNat + 1 by omega] at ih; exact ih
        · exact absurd z (by decide)
        · exact absurd z (by decide)
        · exact ih
  have := lp 0 (by omega) (by omega)
  cases b <;> exact sg_X3_turnsInto_0 this
theorem Q_count (k : Int) (hk : inI k) {h m : xH} (hR : Rel h m) : QI mX7_count mX8_count [.inl k] h m := by
  obtain ⟨⟨i1, i2, i3, i4, i5, i6, i7, i8, i9⟩, r1, r2, r3, r4, r5, r6, r7⟩ := id hR
  obtain ⟨w1, w2, w3, w4, w5, w6, w7, w8⟩ := id i1.1
  have v1 := i1.2.1
  have v2 := i1.2.2.1
  obtain ⟨q1, q2, q3, q4, -, q6, q7, q8⟩ := id r1
  have hh := hg_in (m 1) (h 5) (m 1 2).toNat
  have lf : ∀ v, inI v → (k = 0 → v = m 1 0) → (k = 1 → v = m 1 1) → (k = 2 → v = m 1 2) → (k = 3 → v = m 1 4) → (k = 4 → v = m 0 22) → (k = 5 → v = m 0 23) → (k = 6 → v = m 1 3) → (k = 7 → v = hg (m 1) (h 5) (m 1 2).toNat) → (k = 8 → v = m 1 2 - hg (m 1) (h 5) (m 1 2).toNat) → (k < 0 ∨ 8 < k → v = -1) → QI mX7_count mX8_count [.inl k] h m := by
    intro v iv a0 a1 a2 a3 a4 a5 a6 a7 a8 a9
    refine ⟨v, iv, ?_, ?_⟩
    · refine sg_X7_count_0 (by omega) ⟨hk, fun z => ⟨by rw [a0 z]; exact q1, keepC_rf h⟩, fun z => ⟨by rw [a1 z]; exact q2, keepC_rf h⟩, fun z => ⟨by rw [a2 z]; exact q3, keepC_rf h⟩, fun z => ⟨by rw [a3 z]; exact r2.2.2.1, keepC_rf h⟩, fun z => ⟨by rw [a4 z]; exact r4.1, keepC_rf h⟩, fun z => ⟨by rw [a5 z]; exact r5.1, keepC_rf h⟩, fun z => ⟨by rw [a6 z]; exact r2.2.2.2.1, keepC_rf h⟩, fun z => C_turnsInto (b := true) (by omega) i1.1 r1 ⟨(a7 z).symm, keepC_rf h⟩, fun z => C_turnsInto (b := false) (by omega) i1.1 r1 ⟨(a8 z).symm, keepC_rf h⟩, fun z => ⟨(a9 z).symm, keepC_rf h⟩⟩
    · refine sg_X8_count_0 (by omega) (M_findsTurns (by omega) i1.1 (TS_of i1.1 r1) (fun m' k1 k2 k3 k4 _ _ => ?_))
      have kk : keepM m m' := ⟨kp_mono k1 (by decide), k2 3 (by omega) (by omega), k2 22 (by omega) (by omega), k2 23 (by omega) (by omega)⟩
      rw [k1 1 (by decide), k2 22 (by omega) (by omega), k2 23 (by omega) (by omega), k3, k4]
      exact ⟨hk, fun z => ⟨(a0 z).symm, kk⟩, fun z => ⟨(a1 z).symm, kk⟩, fun z => ⟨(a2 z).symm, kk⟩, fun z => ⟨(a3 z).symm, kk⟩, fun z => ⟨(a4 z).symm, kk⟩, fun z => ⟨(a5 z).symm, kk⟩, fun z => ⟨(a6 z).symm, kk⟩, fun z => ⟨(a7 z).symm, kk⟩, fun z => ⟨(a8 z).symm, kk⟩, fun z => ⟨(a9 z).symm, kk⟩⟩
  rcases (show k = 0 ∨ k = 1 ∨ k = 2 ∨ k = 3 ∨ k = 4 ∨ k = 5 ∨ k = 6 ∨ k = 7 ∨ k = 8 ∨ (k < 0 ∨ 8 < k) by omega) with z | z | z | z | z | z | z | z | z | z
  · exact lf (m 1 0) (inI_s (by omega) (by omega)) (fun _ => rfl) (by omega) (by omega) (by omega) (by omega) (by omega) (by omega) (by omega) (by omega) (by omega)
  · exact lf (m 1 1) (inI_s (by omega) (by omega)) (by omega) (fun _ => rfl) (by omega) (by omega) (by omega) (by omega) (by omega) (by omega) (by omega) (by omega)
  · exact lf (m 1 2) (inI_s (by omega) (by omega)) (by omega) (by omega) (fun _ => rfl) (by omega) (by omega) (by omega) (by omega) (by omega) (by omega) (by omega)
  · exact lf (m 1 4) (inI_s (by omega) (by omega)) (by omega) (by omega) (by omega) (fun _ => rfl) (by omega) (by omega) (by omega) (by omega) (by omega) (by omega)
  · exact lf (m 0 22) (inI_s (by omega) (by omega)) (by omega) (by omega) (by omega) (by omega) (fun _ => rfl) (by omega) (by omega) (by omega) (by omega) (by omega)
  · exact lf (m 0 23) (inI_s (by omega) (by omega)) (by omega) (by omega) (by omega) (by omega) (by omega) (fun _ => rfl) (by omega) (by omega) (by omega) (by omega)
  · exact lf (m 1 3) (inI_s (by omega) (by omega)) (by omega) (by omega) (by omega) (by omega) (by omega) (by omega) (fun _ => rfl) (by omega) (by omega) (by omega)
  · exact lf (hg (m 1) (h 5) (m 1 2).toNat) (inI_s (by omega) (by omega)) (by omega) (by omega) (by omega) (by omega) (by omega) (by omega) (by omega) (fun _ => rfl) (by omega) (by omega)
  · exact lf (m 1 2 - hg (m 1) (h 5) (m 1 2).toNat) (inI_s (by omega) (by omega)) (by omega) (by omega) (by omega) (by omega) (by omega) (by omega) (by omega) (by omega) (fun _ => rfl) (by omega)
  · exact lf (-1) (inI_s (by omega) (by omega)) (by omega) (by omega) (by omega) (by omega) (by omega) (by omega) (by omega) (by omega) (by omega) (fun _ => rfl)
