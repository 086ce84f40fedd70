/-! lawful orders: what is left -/
def uc (s : Int → Int) : Nat → Nat
  | 0 => 0
  | k + 1 => uc s k + (if s (95 + k) = 1 then 0 else 1)
theorem uc_d {s : Int → Int} {k : Nat} (h : s (95 + k) = 1) : uc s (k + 1) = uc s k := by rw [uc, if_pos h]; rfl
theorem uc_u {s : Int → Int} {k : Nat} (h : ¬ s (95 + k) = 1) : uc s (k + 1) = uc s k + 1 := by rw [uc, if_neg h]
theorem uc_mono (s : Int → Int) : ∀ n k : Nat, uc s n ≤ uc s (n + k) := by
  intro n k
  induction k with
  | zero => exact Nat.le_refl _
  | succ k ih =>
    by_cases z : s (95 + ((n + k : Nat) : Int)) = 1
    · have := uc_d z
      rw [show n + (k + 1) = n + k + 1 by omega]; omega
    · have := uc_u z
      rw [show n + (k + 1) = n + k + 1 by omega]; omega
theorem uc_lt {s : Int → Int} {a b : Nat} (h : a < b) (ha : ¬ s (95 + a) = 1) : uc s a < uc s b := by
  have := uc_mono s (a + 1) (b - (a + 1))
  rw [show a + 1 + (b - (a + 1)) = b by omega, uc_u ha] at this
  omega
theorem uc_surj (s : Int → Int) : ∀ n j : Nat, j < uc s n → ∃ p : Nat, p < n ∧ ¬ s (95 + p) = 1 ∧ uc s p = j := by
  intro n
  induction n with
  | zero => intro j h; exact absurd h (by simp [uc])
  | succ n ih =>
    intro j h
    by_cases z : s (95 + n) = 1
    · rw [uc_d z] at h
      obtain ⟨p, h1, h2⟩ := ih j h
      exact ⟨p, by omega, h2⟩
    · rw [uc_u z] at h
      by_cases y : j = uc s n
      · exact ⟨n, by omega, z, y.symm⟩
      · obtain ⟨p, h1, h2⟩ := ih j (by omega)
        exact ⟨p, by omega, h2⟩
theorem uL_ex (s : Int → Int) : ∀ n : Nat, ∃ L : Int → Int, ∀ p : Nat, p < n → ¬ s (95 + p) = 1 → L (uc s p) = p := by
  intro n
  induction n with
  | zero => exact ⟨fun _ => 0, fun p h => by omega⟩
  | succ n ih =>
    obtain ⟨L, hL⟩ := ih
    by_cases z : s (95 + n) = 1
    · refine ⟨L, fun p a b => ?_⟩
      by_cases y : p = n
      · rw [y] at b; exact absurd z b
      · exact hL p (by omega) b
    · refine ⟨up1 L (uc s n) n, fun p a b => ?_⟩
      by_cases y : p = n
      · rw [y, up1_eq]
      · have := uc_lt (s := s) (a := p) (b := n) (by omega) b
        rw [up1_ne (by omega)]
        exact hL p (by omega) b
def lwp (s : Int → Int) : Nat → Bool
  | 0 => true
  | k + 1 => lwp s k && (decide (s (95 + k) = 1) || !lks s k)
theorem lwp_iff (s : Int → Int) : ∀ n : Nat, lwp s n = true ↔ ∀ p : Nat, p < n → ¬ s (95 + p) = 1 → lks s p = false := by
  intro n
  induction n with
  | zero => exact ⟨fun _ p h => by omega, fun _ => rfl⟩
  | succ n ih =>
    rw [lwp, Bool.and_eq_true, ih, Bool.or_eq_true]
    constructor
    · intro ⟨h1, h2⟩ p a b
      by_cases y : p = n
      · rw [y] at b ⊢
        rcases h2 with z | z
        · exact absurd (of_decide_eq_true z) b
        · simpa using z
      · exact h1 p (by omega) b
    · intro h
      refine ⟨fun p a b => h p (by omega) b, ?_⟩
      by_cases z : s (95 + n) = 1
      · exact Or.inl (decide_eq_true z)
      · right; rw [h n (by omega) z]; rfl
/-- what must come ahead, among those left -/
def Bx (f5 L : Int → Int) (n j : Nat) : Nat := bts (fun i => (f5 (L j)).toNat.testBit (L i).toNat) n
theorem Bx_bit (f5 L : Int → Int) (n j i : Nat) (hi : i < n) : (Bx f5 L n j).testBit i = (f5 (L j)).toNat.testBit (L i).toNat := by
  unfold Bx
  rw [bts_bit, decide_eq_true hi]
  rfl
theorem addA_has {f : Int → Int} {X N : Nat} {a : Int} (hX : X < 2 ^ 30) (ha : a < 30) (hf : 0 ≤ a → f a = N ∧ N < 2 ^ 30) : ∃ Y : Nat, addA f X a = Y ∧ Y < 2 ^ 30 ∧ (∀ i, X.testBit i = true → Y.testBit i = true) ∧ (0 ≤ a → Y.testBit a.toNat = true ∧ ∀ i, N.testBit i = true → Y.testBit i = true) := by
  unfold addA
  by_cases z : a < 0
  · rw [if_pos z]
    exact ⟨X, rfl, hX, fun i h => h, fun y => by omega⟩
  · rw [if_neg z]
    obtain ⟨e, hN⟩ := hf (by omega)
    have hq30 : 2 ^ a.toNat < 2 ^ 30 := two_pow_lt (by omega)
    have ho : 2 ^ a.toNat ||| N < 2 ^ 30 := Nat.or_lt_two_pow hq30 hN
    have ho2 : X ||| (2 ^ a.toNat ||| N) < 2 ^ 30 := Nat.or_lt_two_pow hX ho
    rw [e, Int.one_mul, pow_nat, xorL_nat (by omega) (by omega), xorL_nat (by omega) (by omega)]
    refine ⟨_, rfl, ho2, fun i h => ?_, fun _ => ⟨?_, fun i h => ?_⟩⟩
    · rw [Nat.testBit_or, h, Bool.true_or]
    · rw [Nat.testBit_or, Nat.testBit_or, Nat.testBit_two_pow, decide_eq_true rfl, Bool.true_or, Bool.or_true]
    · rw [Nat.testBit_or, Nat.testBit_or, h, Bool.or_true, Bool.or_true]
/-- two pins that share a slot aren't of one row -/
theorem shr_ne {s : Int → Int} (hW : WFp s) {p q k : Int} (hp : 0 ≤ p ∧ p < s 1) (hq : 0 ≤ q ∧ q < s 1) (hpk : shr s p k) (hqk : shr s q k) (ne : p ≠ q) : s (5 + p) ≠ s (5 + q) := by
  intro e
  have w := hW.2.2.2.2.1 p q hp.1 hp.2 hq.1 hq.2 ne e
  unfold shr at hpk hqk
  omega
/-- a pin needs all of lesser rows that share a slot with it -/
theorem need_has {s f4 f5 f7 : Int → Int} (hW : WFp s) (hN : ∀ q, 0 ≤ q → q < s 1 → NeedAt s f4 f5 f7 q) : ∀ (r : Nat) (p q k : Int), 0 ≤ p → p < s 1 → 0 ≤ q → q < s 1 → s (5 + p) < r → s (5 + q) < s (5 + p) → shr s p k → shr s q k → (f5 p).toNat.testBit q.toNat = true := by
  obtain ⟨w1, w2, w3, w4, w5, w6, w7, w8⟩ := id hW
  intro r
  induction r with
  | zero => intro p q k h0 h1 _ _ h2; have := w4 p h0 h1; omega
  | succ r ih =>
    intro p q k h0 h1 q0 q1 h2 h3 hpk hqk
    have fa : ∀ a : Int, -1 ≤ a ∧ a < s 1 → ∃ N : Nat, 0 ≤ a → f5 a = N ∧ N < 2 ^ 30 := fun a ha => by
      by_cases z : 0 ≤ a
      · obtain ⟨N, e, l, _⟩ := need_N hW hN z ha.2
        exact ⟨N, fun _ => ⟨e, l⟩⟩
      · exact ⟨0, fun y => absurd y z⟩
    have a := ah_ok (s := s) (by omega) p (s (35 + p))
    have b := ah_ok (s := s) (by omega) p (s (35 + p) + 1)
    obtain ⟨N1, m1⟩ := fa _ a.1
    obtain ⟨N2, m2⟩ := fa _ b.1
    obtain ⟨Y1, e1, l1, x1, y1⟩ := addA_has (f := f5) (X := 0) (N := N1) (a := ah s p (s (35 + p))) (by decide) (by omega) m1
    obtain ⟨Y2, e2, l2, x2, y2⟩ := addA_has (f := f5) (X := Y1) (N := N2) (a := ah s p (s (35 + p) + 1)) l1 (by omega) m2
    have e1 : addA f5 0 (ah s p (s (35 + p))) = (Y1 : Int) := e1
    have e5 : f5 p = (Y2 : Int) := by rw [(hN p h0 h1).2.1, e1, e2]
    -- what the pin ahead on the slot k gives
    have go : ∀ (A : Int) (N : Nat), (-1 ≤ A ∧ A < s 1) → (0 ≤ A → s (5 + A) < s (5 + p) ∧ shr s A k) → (0 ≤ A ∧ s (5 + q) ≤ s (5 + A)) → (0 ≤ A → f5 A = N ∧ N < 2 ^ 30) → (0 ≤ A → Y2.testBit A.toNat = true ∧ ∀ i, N.testBit i = true → Y2.testBit i = true) → Y2.testBit q.toNat = true := by
      intro A N i1 i2 i3 i4 i5
      by_cases z : A = q
      · rw [← z]; exact (i5 i3.1).1
      · have ne := shr_ne hW ⟨i3.1, i1.2⟩ ⟨q0, q1⟩ (i2 i3.1).2 hqk z
        have lt := (i2 i3.1).1
        have g := ih A q k i3.1 i1.2 q0 q1 (by omega) (by omega) (i2 i3.1).2 hqk
        rw [(i4 i3.1).1, show ((N : Int)).toNat = N by omega] at g
        exact (i5 i3.1).2 _ g
    rw [e5, show ((Y2 : Int)).toNat = Y2 by omega]
    rcases hpk with z | z
    · rw [← z] at hqk go
      exact go _ N1 a.1 a.2.1 (a.2.2 q q0 q1 h3 hqk) m1 (fun y => ⟨x2 _ (y1 y).1, fun i hi => x2 _ ((y1 y).2 i hi)⟩)
    · rw [← z] at hqk go
      exact go _ N2 b.1 b.2.1 (b.2.2 q q0 q1 h3 hqk) m2 y2
theorem TH_of {s f4 f5 f7 L : Int → Int} {n : Nat} (hW : WFp s) (hN : ∀ q, 0 ≤ q → q < s 1 → NeedAt s f4 f5 f7 q) (hn : n ≤ 12) (hL : ∀ j : Nat, j < n → 0 ≤ L j ∧ L j < s 1) (hI : ∀ i j : Nat, i < n → j < n → L i = L j → i = j) : TH n (Bx f5 L n) (fun j => s (35 + L j)) := by
  obtain ⟨w1, w2, w3, w4, w5⟩ := id hW
  refine ⟨hn, fun i hi => bts_lt _ n, fun i hi => ?_, ⟨fun j => s (5 + L j), fun i j hi hj hb => ?_⟩, fun i j hi hj ne e => ?_⟩
  · have l := hL i hi
    have := w4 (L i) l.1 l.2
    show 0 ≤ s (35 + L i) ∧ s (35 + L i) ≤ 11
    omega
  · have l := hL i hi
    have lj := hL j hj
    rw [Bx_bit f5 L n i j hj] at hb
    obtain ⟨N, e1, e2, e3⟩ := need_N hW hN l.1 l.2
    rw [e1, show ((N : Int)).toNat = N by omega] at hb
    have := (e3 _ hb).2
    rw [show (((L j).toNat : Nat) : Int) = L j by omega] at this
    exact this
  · have li := hL i hi
    have lj := hL j hj
    have e : s (35 + L i) / 2 = s (35 + L j) / 2 := e
    have si : shr s (L i) (s (35 + L i) / 2 * 2 + 1) := by unfold shr; omega
    have sj : shr s (L j) (s (35 + L i) / 2 * 2 + 1) := by unfold shr; omega
    have nr := shr_ne hW li lj si sj (fun z => ne (hI i j hi hj z))
    have ri := w4 (L i) li.1 li.2
    have rj := w4 (L j) lj.1 lj.2
    rw [Bx_bit f5 L n i j hj, Bx_bit f5 L n j i hi]
    rcases Int.lt_or_le (s (5 + L j)) (s (5 + L i)) with z | z
    · exact Or.inl (need_has hW hN 100 (L i) (L j) _ li.1 li.2 lj.1 lj.2 (by omega) z si sj)
    · exact Or.inr (need_has hW hN 100 (L j) (L i) _ lj.1 lj.2 li.1 li.2 (by omega) (by omega) sj si)
theorem L_inj {s L : Int → Int} (hL : ∀ p : Nat, p < (s 1).toNat → ¬ s (95 + p) = 1 → L (uc s p) = p) : ∀ i j : Nat, i < uc s (s 1).toNat → j < uc s (s 1).toNat → L i = L j → i = j := by
  intro i j hi hj e
  obtain ⟨p, g1, g2, g3⟩ := uc_surj s (s 1).toNat i hi
  obtain ⟨q, k1, k2, k3⟩ := uc_surj s (s 1).toNat j hj
  have a := hL p g1 g2
  have b := hL q k1 k2
  rw [g3] at a
  rw [k3] at b
  have : p = q := by omega
  rw [← g3, ← k3, this]
theorem bts_step {P : Int → Bool} {i n : Nat} (hi : i < n) (hn : n ≤ 12) (hp : P i = true) : xorI (bts P i : Int) (1 * 2 ^ (Int.toNat (i : Int))) = (bts P (i + 1) : Int) := by
  have b := bts_lt P i
  have : 2 ^ i ≤ 2 ^ 12 := two_pow_le (by omega)
  rw [xorI_p (by omega) (by omega) (by omega), show (Int.toNat (i : Int)) = i by omega, bts, hp, if_pos rfl]
theorem C_amongLeft {d n A : Nat} {L : Int → Int} {h : xH} {Q : Int → xH → Prop} (hd : 2 ≤ d) (hn : n ≤ 12) (c0 : h 32 0 = n) (c1 : ∀ j : Nat, j < n → h 33 j = L j ∧ 0 ≤ L j ∧ L j < 30) (hA : A < 2 ^ 62) (hq : Q ((bts (fun i => A.testBit (L i).toNat) n : Nat) : Int) h) : cI wdC d mX6_amongLeft [.inr (.inr 32), .inr (.inl (A : Int))] h Q := by
  have lp : ∀ i : Int, i ≤ n → 0 ≤ i → gI wdC d mX6_amongLeft 5 [some (.inr (.inr 32)), some (.inr (.inl (A : Int))), none, some (.inl ((bts (fun i => A.testBit (L i).toNat) i.toNat : Nat) : Int)), some (.inl i)] h Q := by
    refine dn ?_ ?_
    · intro _
      refine sg_X6_amongLeft_5 (by omega) ?_
      rw [c0]
      exact ⟨⟨inI_s (by omega) (by omega), inI_s (by omega) (by omega)⟩, fun _ => hq, fun z => absurd z (by omega)⟩
    · intro i hi ih i0
      obtain ⟨I, eI⟩ : ∃ I : Nat, i = I := ⟨i.toNat, by omega⟩
      subst eI
      have ih := ih (by omega)
      rw [show ((I : Int) + 1).toNat = I + 1 by omega] at ih
      have l := c1 I (by omega)
      refine sg_X6_amongLeft_5 (by omega) ?_
      rw [c0, l.1]
      refine ⟨⟨inI_s (by omega) (by omega), inI_s (by omega) (by omega)⟩, fun z => absurd z (by omega), fun _ => ⟨by omega, C_hasPin (by omega) hA (by omega) (fun b => ⟨by omega, ?_⟩) (fun b => ?_)⟩⟩
      · rw [show (Int.toNat (I : Int)) = I by omega] at *
        have e := bts_step (P := fun i => A.testBit (L i).toNat) (i := I) (n := n) (by omega) hn b
        rw [show (Int.toNat (I : Int)) = I by omega] at e
        rw [e]
        exact ih
      · rw [bts, if_neg (by show ¬ A.testBit (L (I : Int)).toNat = true; rw [b]; decide)] at ih
        exact ih
  exact sg_X6_amongLeft_0 (lp 0 (by omega) (by omega))
theorem C_gather {d : Nat} {h : xH} {s f4 f5 f7 L : Int → Int} {Q : Int → xH → Prop} (hd : 3 ≤ d) (hW : WF s) (hP : RPat h 1 2 3 4 5 s) (hN : ∀ q, 0 ≤ q → q < s 1 → NeedAt s f4 f5 f7 q) (hG : RG h) (h5 : ∀ q, 0 ≤ q → q < s 1 → h 28 q = f5 q) (hL : ∀ p : Nat, p < (s 1).toNat → ¬ s (95 + p) = 1 → L (uc s p) = p)
    (hq0 : 12 < uc s (s 1).toNat → ∀ h', kp [32, 33, 34, 35, 36, 54] h h' → RG h' → Q 0 h')
    (hq1 : uc s (s 1).toNat ≤ 12 → ∀ h', kp [32, 33, 34, 35, 36, 54] h h' → CT h' (uc s (s 1).toNat) L (fun j => s (35 + L j)) (Bx f5 L (uc s (s 1).toNat)) → ∀ c σ, MK h' (uc s (s 1).toNat) (Bx f5 L (uc s (s 1).toNat)) c σ → h' 32 1 = b2i (lwp s (s 1).toNat) → Q 1 h') :
    cI wdC d mX6_gather [.inr (.inr 32), .inr (.inr 1), .inr (.inr 26), .inr (.inl (dnb s (s 1).toNat)), .inr (.inl (bts (lks s) (s 1).toNat))] h Q := by
  obtain ⟨w1, w2, w3, w4, w5, w6, w7, w8⟩ := id hW.1
  have v3 := hW.2.2.2.1
  have q2 := hP.2.1
  have q4 := hP.2.2.2.1
  have hD : dnb s (s 1).toNat < 2 ^ 62 := Nat.lt_of_lt_of_le (dnb_lt s _) (two_pow_le (by omega))
  have hK : bts (lks s) (s 1).toNat < 2 ^ 62 := bts_62 _ (by omega)
  have hI := L_inj hL
  generalize hn : uc s (s 1).toNat = n at hq0 hq1 hI
  -- behind the first loop
  have snd : n ≤ 12 → ∀ h1 : xH, kp [32, 33, 34] h h1 → h1 32 0 = n → h1 32 1 = b2i (lwp s (s 1).toNat) → (∀ q : Nat, q < (s 1).toNat → ¬ s (95 + q) = 1 → h1 33 (uc s q) = q ∧ h1 34 (uc s q) = s (35 + q)) → gI wdC d mX6_gather 106 [some (.inr (.inr 32)), none, some (.inr (.inr 26)), none, none, none, none, some (.inl 0)] h1 Q := by
    intro n12 h1 k1 e0 e1 eL
    have c1 : ∀ j : Nat, j < n → h1 33 j = L j ∧ h1 34 j = s (35 + L j) ∧ 0 ≤ L j ∧ L j < s 1 := fun j hj => by
      obtain ⟨p, g1, g2, g3⟩ := uc_surj s (s 1).toNat j (by omega)
      have a := eL p g1 g2
      rw [g3] at a
      have b := hL p g1 g2
      rw [g3] at b
      rw [b]
      exact ⟨a.1, a.2, by omega, by omega⟩
    have hT : TH n (Bx f5 L n) (fun j => s (35 + L j)) := TH_of hW.1 hN n12 (fun j hj => (c1 j hj).2.2) hI
    have bef : ∀ t : Int, t ≤ n → 0 ≤ t → ∀ h2 : xH, kp [35] h1 h2 → (∀ j : Nat, (j : Int) < t → h2 35 j = (Bx f5 L n j : Int)) → gI wdC d mX6_gather 106 [some (.inr (.inr 32)), none, some (.inr (.inr 26)), none, none, none, none, some (.inl t)] h2 Q := by
      refine dn ?_ ?_
      · intro _ h2 k2 eB
        have c2 : CT h2 n L (fun j => s (35 + L j)) (Bx f5 L n) := ⟨by rw [k2 32 (by decide)]; exact e0, fun j hj => by
          rw [k2 33 (by decide), k2 34 (by decide)]
          exact ⟨(c1 j hj).1, (c1 j hj).2.1, eB j (by omega)⟩⟩
        refine sg_X6_gather_106 (by omega) ?_
        rw [c2.1]
        refine ⟨⟨inI_s (by omega) (by omega), inI_s (by omega) (by omega)⟩, fun _ => C_findSets (by omega) hT c2 (hG.congr (by rw [k2 54 (by decide), k1 54 (by decide)])) (fun h3 cn σ k3 M3 => ?_), fun z => absurd z (by omega)⟩
        exact hq1 n12 h3 (kp_tr (kp_mono k1 (by decide)) (kp_tr (kp_mono k2 (by decide)) (kp_mono k3.1 (by decide)))) (c2.keepS k3) cn σ M3 (by rw [k3.2 1 (by decide), k2 32 (by decide)]; exact e1)
      · intro t ht ih t0 h2 k2 eB
        obtain ⟨I, eI⟩ : ∃ I : Nat, t = I := ⟨t.toNat, by omega⟩
        subst eI
        have ih := ih (by omega)
        have l := c1 I (by omega)
        obtain ⟨N, e2, e3, e4⟩ := need_N hW.1 hN l.2.2.1 l.2.2.2
        have e28 : h2 28 (L I) = (N : Int) := by rw [k2 28 (by decide), k1 28 (by decide), h5 _ l.2.2.1 l.2.2.2, e2]
        refine sg_X6_gather_106 (by omega) ?_
        rw [k2 32 (by decide), e0, k2 33 (by decide), l.1, e28]
        refine ⟨⟨inI_s (by omega) (by omega), inI_s (by omega) (by omega)⟩, fun z => absurd z (by omega), fun _ => ⟨by omega, by omega, C_amongLeft (n := n) (L := L) (by omega) n12 (by rw [k2 32 (by decide)]; exact e0) (fun j hj => ?_) (by have : 2 ^ 30 ≤ 2 ^ 62 := two_pow_le (by omega); omega) ⟨by omega, ih _ (kp_tr k2 (kp_xu (by decide))) (fun j hj => ?_)⟩⟩⟩
        · rw [k2 33 (by decide)]
          have := c1 j hj
          exact ⟨this.1, by omega, by omega⟩
        · by_cases y : j = I
          · rw [y, xu_eq]
            unfold Bx
            rw [e2, show ((N : Int)).toNat = N by omega]
          · rw [xu_ne (by omega)]; exact eB j (by omega)
    exact bef 0 (by omega) (by omega) h1 (kp_rf _ _) (fun j hj => by omega)
  have lp : ∀ t : Int, t ≤ s 1 → 0 ≤ t → ∀ h1 : xH, kp [32, 33, 34] h h1 → uc s t.toNat ≤ 12 → h1 32 0 = uc s t.toNat → h1 32 1 = b2i (lwp s t.toNat) → (∀ q : Nat, (q : Int) < t → ¬ s (95 + q) = 1 → h1 33 (uc s q) = q ∧ h1 34 (uc s q) = s (35 + q)) → gI wdC d mX6_gather 13 [some (.inr (.inr 32)), some (.inr (.inr 1)), some (.inr (.inr 26)), some (.inr (.inl (dnb s (s 1).toNat))), none, some (.inr (.inl (bts (lks s) (s 1).toNat))), none, some (.inl t)] h1 Q := by
    refine dn ?_ ?_
    · intro _ h1 k1 u12 e0 e1 eL
      refine sg_X6_gather_13 (by omega) ?_
      rw [k1 1 (by decide), q2]
      exact ⟨⟨inI_s (by omega) (by omega), inI_s (by omega) (by omega)⟩, fun _ => snd (by omega) h1 k1 (by rw [e0, hn]) e1 (fun q a b => eL q (by omega) b), fun z => absurd z (by omega)⟩
    · intro t ht ih t0 h1 k1 u12 e0 e1 eL
      obtain ⟨p, ep⟩ : ∃ p : Nat, t = p := ⟨t.toNat, by omega⟩
      subst ep
      have ih := ih (by omega)
      rw [show ((p : Int) + 1).toNat = p + 1 by omega] at ih
      rw [show ((p : Int)).toNat = p by omega] at u12 e0 e1
      have q4p := q4 p (by omega) (by omega)
      have v := v3 p (by omega) (by omega)
      refine sg_X6_gather_13 (by omega) ?_
      rw [k1 1 (by decide), q2]
      refine ⟨⟨inI_s (by omega) (by omega), inI_s (by omega) (by omega)⟩, fun z => absurd z (by omega), fun _ => C_hasPin (by omega) hD (by omega) (fun b => ?_) (fun b => ?_)⟩
      · rw [dnb_bit, show (Int.toNat (p : Int)) = p by omega] at b
        have b := (of_decide_eq_true b).2
        refine ih h1 k1 (by rw [uc_d b]; exact u12) (by rw [uc_d b]; exact e0) ?_ (fun q a c => ?_)
        · rw [lwp, decide_eq_true b, Bool.true_or, Bool.and_true]; exact e1
        · by_cases y : q = p
          · rw [y] at c; exact absurd b c
          · exact eL q (by omega) c
      · rw [dnb_bit, show (Int.toNat (p : Int)) = p by omega] at b
        have b : ¬ s (95 + p) = 1 := fun z => by rw [decide_eq_true ⟨by omega, z⟩] at b; cases b
        have up := uc_u b
        have um := uc_mono s (p + 1) ((s 1).toNat - (p + 1))
        rw [show p + 1 + ((s 1).toNat - (p + 1)) = (s 1).toNat by omega, hn] at um
        rw [e0, k1 3 (by decide), q4p.2.1]
        refine ⟨inI_s (by omega) (by omega), fun z => ⟨by omega, by omega, by omega, ?_⟩, fun z => hq0 (by omega) h1 (kp_mono k1 (by decide)) (hG.congr (k1 54 (by decide)))⟩
        have nx : ∀ (v : Int) (h2 : xH), h2 = xu (xu (xu (xu h1 33 (uc s p) p) 34 (uc s p) (s (35 + p))) 32 0 ((uc s p : Int) + 1)) 32 1 v ∨ (h2 = xu (xu (xu h1 33 (uc s p) p) 34 (uc s p) (s (35 + p))) 32 0 ((uc s p : Int) + 1) ∧ v = b2i (lwp s p)) → v = b2i (lwp s (p + 1)) → gI wdC d mX6_gather 13 [some (.inr (.inr 32)), some (.inr (.inr 1)), some (.inr (.inr 26)), some (.inr (.inl (dnb s (s 1).toNat))), none, some (.inr (.inl (bts (lks s) (s 1).toNat))), none, some (.inl ((p : Int) + 1))] h2 Q := by
          intro v h2 e2 ev
          have kb : kp [32, 33, 34] h1 (xu (xu (xu h1 33 (uc s p) p) 34 (uc s p) (s (35 + p))) 32 0 ((uc s p : Int) + 1)) := kp_tr (kp_tr (kp_xu (by decide)) (kp_xu (by decide))) (kp_xu (by decide))
          have k2 : kp [32, 33, 34] h1 h2 := by
            rcases e2 with z | z
            · rw [z]; exact kp_tr kb (kp_xu (by decide))
            · rw [z.1]; exact kb
          have e33 : ∀ i, h2 33 i = if i = (uc s p : Int) then (p : Int) else h1 33 i := fun i => by
            rcases e2 with z | z
            · rw [z]; simp (disch := omega) only [xu_cn]; simp [xu]
            · rw [z.1]; simp (disch := omega) only [xu_cn]; simp [xu]
          have e34 : ∀ i, h2 34 i = if i = (uc s p : Int) then s (35 + p) else h1 34 i := fun i => by
            rcases e2 with z | z
            · rw [z]; simp (disch := omega) only [xu_cn]; simp [xu]
            · rw [z.1]; simp (disch := omega) only [xu_cn]; simp [xu]
          refine ih h2 (kp_tr k1 k2) (by omega) ?_ ?_ (fun q a c => ?_)
          · rw [up]
            rcases e2 with z | z
            · rw [z, xu_ne (by decide), xu_eq]; omega
            · rw [z.1, xu_eq]; omega
          · rw [← ev]
            rcases e2 with z | z
            · rw [z, xu_eq]
            · rw [z.1, xu_ne (by decide), xu_cn (by decide), xu_cn (by decide), e1]; exact z.2.symm
          · by_cases y : q = p
            · rw [e33, e34, y, if_pos rfl, if_pos rfl]; exact ⟨rfl, rfl⟩
            · have := uc_lt (s := s) (a := q) (b := p) (by omega) c
              rw [e33, e34, if_neg (by omega), if_neg (by omega)]
              exact eL q (by omega) c
        refine C_hasPin (by omega) hK (by omega) (fun g => ?_) (fun g => ?_)
        · rw [bts_bit, show (Int.toNat (p : Int)) = p by omega, Bool.and_eq_true] at g
          refine nx 0 _ (Or.inl rfl) ?_
          rw [lwp, g.2, decide_eq_false b]; simp [b2i]
        · rw [bts_bit, show (Int.toNat (p : Int)) = p by omega, decide_eq_true (show p < (s 1).toNat by omega), Bool.true_and] at g
          refine nx (b2i (lwp s p)) _ (Or.inr ⟨rfl, rfl⟩) ?_
          rw [lwp, g, Bool.not_false, Bool.or_true, Bool.and_true]
  refine sg_X6_gather_0 (lp 0 (by omega) (by omega) _ (kp_tr (kp_xu (by decide)) (kp_xu (by decide))) (by simp [uc]) ?_ ?_ (fun q a => by omega))
  · rw [xu_ne (by decide), xu_eq]; rfl
  · rw [xu_eq]; rfl
theorem C_think {d : Nat} {h : xH} {s f4 f5 f7 L : Int → Int} {T F : xH → Prop} (hd : 5 ≤ d) (hW : WF s) (hP : RPat h 1 2 3 4 5 s) (hB : RBen h 6 7 8 9 10 s) (hN : ∀ q, 0 ≤ q → q < s 1 → NeedAt s f4 f5 f7 q) (hG : RG h) (hL : ∀ p : Nat, p < (s 1).toNat → ¬ s (95 + p) = 1 → L (uc s p) = p)
    (hf : 12 < uc s (s 1).toNat → ∀ h', kp [27, 28, 29, 30, 31, 32, 33, 34, 35, 36, 54] h h' → RG h' → F h')
    (ht : uc s (s 1).toNat ≤ 12 → ∀ h', kp [27, 28, 29, 30, 31, 32, 33, 34, 35, 36, 54] h h' → CT h' (uc s (s 1).toNat) L (fun j => s (35 + L j)) (Bx f5 L (uc s (s 1).toNat)) → ∀ c σ, MK h' (uc s (s 1).toNat) (Bx f5 L (uc s (s 1).toNat)) c σ → h' 32 1 = b2i (lwp s (s 1).toNat) → T h') :
    cB wdC d mX7_think [.inr (.inr 0)] h T F := by
  refine sg_X7_think_0 (by omega) (C_study (by omega) hW.1 hP (fun g kg hg => ?_))
  have hPg : RPat g 1 2 3 4 5 s := hP.congr (kg 1 (by decide)) (kg 2 (by decide)) (kg 3 (by decide)) (kg 4 (by decide)) (kg 5 (by decide))
  have hBg : RBen g 6 7 8 9 10 s := hB.congr (kg 6 (by decide)) (kg 7 (by decide)) (kg 8 (by decide)) (kg 9 (by decide)) (kg 10 (by decide))
  refine C_lackingPins (by omega) hW.1 hPg ?_
  rw [done_same hW hBg]
  refine C_gather (by omega) hW hPg hN (hG.congr (kg 54 (by decide))) (fun q a b => (need_uniq hW.1 hg hN q a b).2.1) hL (fun z h' k g => ⟨Or.inl rfl, Or.inr ⟨rfl, hf z h' (kp_tr (kp_mono kg (by decide)) (kp_mono k (by decide))) g⟩⟩) (fun z h' k c cn σ m e => ⟨Or.inr rfl, Or.inl ⟨rfl, ht z h' (kp_tr (kp_mono kg (by decide)) (kp_mono k (by decide))) c cn σ m e⟩⟩)
