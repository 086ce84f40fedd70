/-! the class: Needs.study, lacking and ready pins -/
theorem C_study {d : Nat} {h : xH} {s : Int → Int} {Q : xH → Prop} (hd : 2 ≤ d) (hW : WFp s) (hR : RPat h 1 2 3 4 5 s) (hq : ∀ h', kp [27, 28, 29, 30, 31] h h' → (∀ q, 0 ≤ q → q < s 1 → NeedAt s (h' 27) (h' 28) (h' 29) q) → Q h') : cV wdC d mX2_study [.inr (.inr 26), .inr (.inr 1)] h Q := by
  obtain ⟨w1, w2, w3, w4, w5, w6, w7, w8⟩ := id hW
  obtain ⟨q1, q2, q3, q4, -, q6, q7, q8⟩ := id hR
  refine sg_X2_study_0 (by omega) (C_sortByRow hW hR (fun g kg hS => C_fill (fun g2 kg2 hl => ?_)))
  have hb : g2 30 = g 30 := kg2 30 (by decide)
  have kg12 : kp [27, 28, 29, 30, 31] h g2 := kp_tr (kp_mono kg (by decide)) (kp_mono kg2 (by decide))
  generalize g 30 = b at *
  have lp : ∀ i : Int, i ≤ s 1 → 0 ≤ i → ∀ h1 : xH, kp [27, 28, 29, 30, 31] h h1 → h1 30 = b → (∀ j, 0 ≤ j → j < i → NeedAt s (h1 27) (h1 28) (h1 29) (b j)) → (∀ k, 0 ≤ k → k < 12 → lastOf s b i k (h1 31 k)) → gV wdC d mX2_study 15 [some (.inr (.inr 26)), some (.inr (.inr 1)), some (.inl i), none, none] h1 Q := by
    refine dn ?_ ?_
    · intro _ h1 hk he hn hlast
      have e1 : h1 1 = h 1 := hk 1 (by decide)
      refine sg_X2_study_15 (by omega) ⟨⟨inI_s (by omega) (by omega), by rw [e1]; exact inI_s (by omega) (by omega)⟩, fun _ => hq h1 hk (fun q a c => ?_), fun z => absurd z (by rw [e1]; omega)⟩
      obtain ⟨j, j0, j1, e⟩ := hS.2.2 q a c
      rw [← e]; exact hn j j0 j1
    · intro i hi ih h0 h1 hk he hn hlast
      have e1 : h1 1 = h 1 := hk 1 (by decide)
      have e3 : h1 3 = h 3 := hk 3 (by decide)
      have bi := hS.1 i h0 hi
      have wi := w4 _ bi.1 bi.2
      have ci := (q4 _ bi.1 bi.2).2.1
      refine sg_X2_study_15 (by omega) ⟨⟨inI_s (by omega) (by omega), by rw [e1]; exact inI_s (by omega) (by omega)⟩, fun z => absurd z (by rw [e1]; omega), fun _ => ?_⟩
      rw [he, e3, ci]
      -- the pins that it needs
      have v1 := last_ah hW hS ⟨h0, hi⟩ (Or.inl rfl) (hlast (s (35 + b i)) (by omega) (by omega))
      have v2 := last_ah hW hS ⟨h0, hi⟩ (Or.inr rfl) (hlast (s (35 + b i) + 1) (by omega) (by omega))
      have a1 := ah_ok (s := s) (by omega) (b i) (s (35 + b i))
      have a2 := ah_ok (s := s) (by omega) (b i) (s (35 + b i) + 1)
      have done : ∀ q, 0 ≤ q → q < s 1 → s (5 + q) < s (5 + b i) → NeedAt s (h1 27) (h1 28) (h1 29) q := by
        intro q c0 c1 c2
        obtain ⟨j, j0, j1, e⟩ := hS.2.2 q c0 c1
        rw [← e]
        refine hn j j0 ?_
        rcases (show j < i ∨ j = i ∨ i < j by omega) with z | z | z
        · exact z
        · rw [z] at e; rw [e] at c2; omega
        · have := (hS.2.1 i j h0 z j1).1; rw [e] at this; omega
      have n1 : 0 ≤ ah s (b i) (s (35 + b i)) → ah s (b i) (s (35 + b i)) ≠ b i ∧ 0 ≤ h1 29 (ah s (b i) (s (35 + b i))) ∧ h1 29 (ah s (b i) (s (35 + b i))) ≤ s (5 + b i) - 1 := fun z => by
        have c := (a1.2.1 z).1
        have := (done _ z a1.1.2 c).2.2.2
        exact ⟨fun w => by rw [w] at c; omega, by omega, by omega⟩
      have n2 : 0 ≤ ah s (b i) (s (35 + b i) + 1) → ah s (b i) (s (35 + b i) + 1) ≠ b i ∧ 0 ≤ h1 29 (ah s (b i) (s (35 + b i) + 1)) ∧ h1 29 (ah s (b i) (s (35 + b i) + 1)) ≤ s (5 + b i) - 1 := fun z => by
        have c := (a2.2.1 z).1
        have := (done _ z a2.1.2 c).2.2.2
        exact ⟨fun w => by rw [w] at c; omega, by omega, by omega⟩
      rw [v1]
      generalize hA : ah s (b i) (s (35 + b i)) = A at *
      generalize hB : ah s (b i) (s (35 + b i) + 1) = B at *
      have nA : A ≠ b i := fun w => by
        rcases (show A = -1 ∨ 0 ≤ A by omega) with z | z
        · omega
        · exact (n1 z).1 w
      have nB : B ≠ b i := fun w => by
        rcases (show B = -1 ∨ 0 ≤ B by omega) with z | z
        · omega
        · exact (n2 z).1 w
      refine ⟨by omega, by omega, by omega, by omega, by omega, by omega, ?_⟩
      refine C_take (by omega) (by omega) (by omega) nA (by rw [xu_eq]; omega) (fun z => by rw [xu_ne nA]; simp (disch := omega) only [xu_cn]; have := n1 z; omega) (fun h2 k2 o2 f27 f28 f29 => ⟨by omega, ?_⟩)
      have k02 : kp [27, 28, 29] h1 h2 := kp_tr (kp_tr (kp_tr (kp_xu (by decide)) (kp_xu (by decide))) (kp_xu (by decide))) k2
      have o02 : ∀ z, z ≠ b i → h2 27 z = h1 27 z ∧ h2 28 z = h1 28 z ∧ h2 29 z = h1 29 z := fun z hz => by
        have := o2 z hz
        simp (disch := omega) only [xu_cn, xu_ne] at this
        exact this
      simp (disch := omega) only [xu_cn, xu_eq] at f27 f28 f29
      have l31 : h2 31 = h1 31 := k02 31 (by decide)
      rw [l31, v2]
      have g29 : h2 29 (b i) = addD (h1 29) 0 A := by
        rw [f29]
        exact addD_congr (fun z => xu_ne nA)
      have b29 : 0 ≤ h2 29 (b i) ∧ h2 29 (b i) ≤ s (5 + b i) := by
        rw [g29]
        unfold addD
        split
        · omega
        · have := n1 (by omega); omega
      refine C_take (by omega) (by omega) (by omega) nB (by omega) (fun z => by rw [(o02 B nB).2.2]; have := n2 z; omega) (fun h3 k3 o3 f27' f28' f29' => ⟨by omega, by omega, ?_⟩)
      have k03 : kp [27, 28, 29] h1 h3 := kp_tr k02 k3
      have o03 : ∀ z, z ≠ b i → h3 27 z = h1 27 z ∧ h3 28 z = h1 28 z ∧ h3 29 z = h1 29 z := fun z hz => ⟨(o3 z hz).1.trans (o02 z hz).1, (o3 z hz).2.1.trans (o02 z hz).2.1, (o3 z hz).2.2.trans (o02 z hz).2.2⟩
      have m29 : h3 29 (b i) = addD (h1 29) (addD (h1 29) 0 A) B := by
        rw [f29', g29]
        exact addD_congr (fun z => (o02 B nB).2.2)
      have c29 : 0 ≤ h3 29 (b i) ∧ h3 29 (b i) ≤ s (5 + b i) := by
        rw [f29']
        unfold addD
        split
        · omega
        · rw [(o02 B nB).2.2]; have := n2 (by omega); omega
      have hneed : NeedAt s (h3 27) (h3 28) (h3 29) (b i) := by
        unfold NeedAt
        rw [hA, hB]
        refine ⟨by rw [f27', f27], ?_, ?_, c29⟩
        · rw [f28', f28, addA_congr (f := h3 28) (g := h1 28) (fun z => (o03 B nB).2.1), addA_congr (f := h3 28) (g := h1 28) (fun z => (o03 A nA).2.1), addA_congr (f := h2 28) (g := h1 28) (fun z => (o02 B nB).2.1)]
          congr 1
          exact addA_congr (fun z => by simp (disch := omega) only [xu_cn, xu_ne])
        · rw [m29, addD_congr (f := h3 29) (g := h1 29) (fun z => (o03 B nB).2.2), addD_congr (f := h3 29) (g := h1 29) (fun z => (o03 A nA).2.2)]
      refine ih (by omega) _ (kp_tr hk (kp_tr (kp_mono k03 (by decide)) (kp_tr (kp_xu (by decide)) (kp_xu (by decide))))) ?_ ?_ ?_
      · rw [xu_oth (by decide), xu_oth (by decide), k03 30 (by decide), he]
      · intro j j0 j1
        rw [xu_oth (by decide), xu_oth (by decide), xu_oth (by decide), xu_oth (by decide), xu_oth (by decide), xu_oth (by decide)]
        rcases (show j = i ∨ j < i by omega) with z | z
        · rw [z]; exact hneed
        · have o := hS.2.1 j i j0 z hi
          refine (hn j j0 z).congr (by omega) (o03 _ o.2) (fun y y0 y1 y2 => ?_)
          exact (o03 y (fun w => by rw [w] at y2; omega)).2
      · intro k k0 k1
        have l3 : h3 31 = h1 31 := k03 31 (by decide)
        by_cases z1 : k = s (35 + b i) + 1
        · rw [z1, xu_eq]
          exact Or.inr ⟨i, h0, by omega, rfl, Or.inr rfl, fun j' a c => by omega⟩
        · rw [xu_ne z1]
          by_cases z2 : k = s (35 + b i)
          · rw [z2, xu_eq]
            exact Or.inr ⟨i, h0, by omega, rfl, Or.inl rfl, fun j' a c => by omega⟩
          · rw [xu_ne z2, l3]
            have ns : ¬ shr s (b i) k := by unfold shr; omega
            rcases hlast k k0 k1 with ⟨e, hx⟩ | ⟨j, j0, j1, e, hs, hm⟩
            · refine Or.inl ⟨e, fun j a c => ?_⟩
              rcases (show j = i ∨ j < i by omega) with z | z
              · rw [z]; exact ns
              · exact hx j a z
            · refine Or.inr ⟨j, j0, by omega, e, hs, fun j' a c => ?_⟩
              rcases (show j' = i ∨ j' < i by omega) with z | z
              · rw [z]; exact ns
              · exact hm j' a z
  exact lp 0 (by omega) (by omega) g2 kg12 hb (fun j a c => by omega) (fun k a c => Or.inl ⟨hl k a c, fun j x y => by omega⟩)
/-- bits of the first n pins with a property -/
def bts (P : Int → Bool) : Nat → Nat
  | 0 => 0
  | p + 1 => if P p then bts P p ||| 2 ^ p else bts P p
theorem bts_bit (P : Int → Bool) : ∀ (n i : Nat), (bts P n).testBit i = (decide (i < n) && P i) := by
  intro n
  induction n with
  | zero => intro i; simp [bts]
  | succ n ih =>
    intro i
    unfold bts
    split
    · rename_i h
      rw [or_bit, ih]
      by_cases e : i = n
      · subst e; simp [h]
      · have : (i < n + 1) ↔ (i < n) := by omega
        simp [e, this]
    · rename_i h
      rw [ih]
      by_cases e : i = n
      · subst e; simp [h]
      · have : (i < n + 1) ↔ (i < n) := by omega
        simp [this]
theorem bts_lt (P : Int → Bool) (n : Nat) : bts P n < 2 ^ n := by
  apply lt_of_bits
  intro i hi
  rw [bts_bit, Bool.and_eq_true] at hi
  exact of_decide_eq_true hi.1
theorem bts_62 (P : Int → Bool) {n : Nat} (h : n ≤ 30) : bts P n < 2 ^ 62 := Nat.lt_of_lt_of_le (bts_lt P n) (two_pow_le (by omega))
theorem xorL_pow {a : Nat} {p : Int} (ha : a < 2 ^ 62) (h0 : 0 ≤ p) (h1 : p ≤ 61) : xorL a ((2 ^ p.toNat : Nat) : Int) = ((a ||| 2 ^ p.toNat : Nat) : Int) := by
  have h2 : 2 ^ p.toNat < 2 ^ 62 := two_pow_lt (by omega)
  exact xorL_nat (by omega) (by omega)
theorem C_lackingPins {d : Nat} {h : xH} {s : Int → Int} {Q : Int → xH → Prop} (hd : 3 ≤ d) (hW : WFp s) (hR : RPat h 1 2 3 4 5 s) (hq : Q (bts (lks s) (s 1).toNat) h) : cL wdC d mX7_lackingPins [.inr (.inr 0)] h Q := by
  obtain ⟨w1, w2, w3, w4, w5, w6, w7, w8⟩ := id hW
  obtain ⟨q1, q2, q3, q4, -, q6, q7, q8⟩ := id hR
  have lp : ∀ t : Int, t ≤ s 1 → 0 ≤ t → gL wdC d mX7_lackingPins 4 [some (.inr (.inr 0)), some (.inr (.inl (bts (lks s) t.toNat))), none, some (.inl t)] h Q := by
    refine dn ?_ ?_
    · intro _
      exact sg_X7_lackingPins_4 (by omega) ⟨⟨inI_s (by omega) (by omega), inI_s (by omega) (by omega)⟩, fun _ => hq, fun z => absurd z (by omega)⟩
    · intro t ht ih h0
      have e : (t + 1).toNat = t.toNat + 1 := by omega
      have et : ((t.toNat : Nat) : Int) = t := by omega
      have ih := ih (by omega)
      rw [e, bts, et] at ih
      refine sg_X7_lackingPins_4 (by omega) ⟨⟨inI_s (by omega) (by omega), inI_s (by omega) (by omega)⟩, fun z => absurd z (by omega), fun _ => C_lacksPair (by omega) hW hR ⟨h0, ht⟩ (fun b => C_pinBit rfl (by omega) ?_) (fun b => ?_)⟩
      · rw [b, if_pos rfl] at ih
        rw [xorL_pow (bts_62 _ (by omega)) h0 (by omega)]; exact ih
      · rw [b, if_neg (by decide)] at ih; exact ih
  exact sg_X7_lackingPins_0 (lp 0 (by omega) (by omega))
theorem RPat.congr {h h' : xH} {c r sl st tu : Nat} {s : Int → Int} (hR : RPat h c r sl st tu s) (e1 : h' c = h c) (e2 : h' r = h r) (e3 : h' sl = h sl) (e4 : h' st = h st) (e5 : h' tu = h tu) : RPat h' c r sl st tu s := by
  unfold RPat
  rw [e1, e2, e3, e4, e5]
  exact hR
theorem RBen.congr {h h' : xH} {c r sl st tu : Nat} {s : Int → Int} (hR : RBen h c r sl st tu s) (e1 : h' c = h c) (e2 : h' r = h r) (e3 : h' sl = h sl) (e4 : h' st = h st) (e5 : h' tu = h tu) : RBen h' c r sl st tu s := by
  unfold RBen
  rw [e1, e2, e3, e4, e5]
  exact hR
/-- the class's done is the reference's -/
theorem done_same {h : xH} {s : Int → Int} {c th ov wk hb : Nat} (hW : WF s) (hB : RBen h c th ov wk hb s) : h c 2 = ((dnb s (s 1).toNat : Nat) : Int) := by
  obtain ⟨b1, ⟨D, e, hl, hb⟩, b3⟩ := hB
  obtain ⟨v1, v2, v3, v4, v5⟩ := hW.2
  have w2 := hW.1.2.1
  rw [e]
  congr 1
  apply Nat.eq_of_testBit_eq
  intro i
  rw [dnb_bit]
  by_cases hi : i < 30
  · have h1 := hb i hi
    unfold bti at h1
    cases hD : D.testBit i with
    | false =>
      rw [hD] at h1
      rw [decide_eq_false (fun z => by rw [h1] at z; exact absurd z.2 (by decide))]
    | true =>
      rw [hD] at h1
      have h1 : s (95 + i) = 1 := h1
      have : i < (s 1).toNat := by
        rcases (show (i : Int) < s 1 ∨ s 1 ≤ (i : Int) by omega) with z | z
        · omega
        · have := v4 i z (by omega); omega
      rw [decide_eq_true ⟨this, h1⟩]
  · rw [Nat.testBit_lt_two_pow (Nat.lt_of_lt_of_le hl (two_pow_le (by omega))), decide_eq_false (fun z => by omega)]
theorem C_readyPins {d : Nat} {h : xH} {s : Int → Int} {Q : Int → xH → Prop} (hd : 4 ≤ d) (hW : WF s) (hR : RPat h 1 2 3 4 5 s) (hB : RBen h 6 7 8 9 10 s) (hq : ∀ h', kp [27, 28, 29, 30, 31] h h' → (∀ q, 0 ≤ q → q < s 1 → NeedAt s (h' 27) (h' 28) (h' 29) q) → Q (bts (rdy s (h' 28)) (s 1).toNat) h') : cL wdC d mX7_readyPins [.inr (.inr 0)] h Q := by
  obtain ⟨w1, w2, w3, w4, w5, w6, w7, w8⟩ := id hW.1
  obtain ⟨v1, v2, v3, v4, v5⟩ := id hW.2
  refine sg_X7_readyPins_0 (by omega) (C_study (by omega) hW.1 hR (fun g kg hN => ?_))
  have hRg : RPat g 1 2 3 4 5 s := hR.congr (kg 1 (by decide)) (kg 2 (by decide)) (kg 3 (by decide)) (kg 4 (by decide)) (kg 5 (by decide))
  have hBg : RBen g 6 7 8 9 10 s := hB.congr (kg 6 (by decide)) (kg 7 (by decide)) (kg 8 (by decide)) (kg 9 (by decide)) (kg 10 (by decide))
  have eD := done_same hW hBg
  have hdl : dnb s (s 1).toNat < 2 ^ 30 := Nat.lt_of_lt_of_le (dnb_lt _ _) (two_pow_le (by omega))
  have hll : bts (lks s) (s 1).toNat < 2 ^ 30 := Nat.lt_of_lt_of_le (bts_lt _ _) (two_pow_le (by omega))
  have hol : dnb s (s 1).toNat ||| bts (lks s) (s 1).toNat < 2 ^ 30 := Nat.or_lt_two_pow hdl hll
  refine C_lackingPins (by omega) hW.1 hRg ?_
  rw [eD, xorL_nat (by omega) (by omega)]
  obtain ⟨q1, q2, q3, q4, -, q6, q7, q8⟩ := id hRg
  have lp : ∀ t : Int, t ≤ s 1 → 0 ≤ t → gL wdC d mX7_readyPins 29 [some (.inr (.inr 0)), some (.inr (.inl ((dnb s (s 1).toNat ||| bts (lks s) (s 1).toNat : Nat) : Int))), none, some (.inr (.inl (bts (rdy s (g 28)) t.toNat))), none, some (.inl t)] g Q := by
    refine dn ?_ ?_
    · intro _
      exact sg_X7_readyPins_29 (by omega) ⟨⟨inI_s (by omega) (by omega), inI_s (by omega) (by omega)⟩, fun _ => hq g kg hN, fun z => absurd z (by omega)⟩
    · intro t ht ih h0
      have e : (t + 1).toNat = t.toNat + 1 := by omega
      have et : ((t.toNat : Nat) : Int) = t := by omega
      have ih := ih (by omega)
      rw [e, bts, et] at ih
      obtain ⟨N, eN, hNl, hNb⟩ := need_N hW.1 hN h0 ht
      have hwl : wo N (dnb s (s 1).toNat) < 2 ^ 30 := wo_lt hNl
      have b01 := v3 t h0 (by omega)
      have bd : (dnb s (s 1).toNat).testBit t.toNat = decide (s (95 + t) = 1) := by
        rw [dnb_bit, et]; simp; omega
      have bl : (bts (lks s) (s 1).toNat).testBit t.toNat = lks s t := by
        rw [bts_bit, et, decide_eq_true (by omega)]; rfl
      refine sg_X7_readyPins_29 (by omega) ⟨⟨inI_s (by omega) (by omega), inI_s (by omega) (by omega)⟩, fun z => absurd z (by omega), fun _ => C_hasPin (by omega) (by omega) (by omega) (fun b => ?_) (fun b => ⟨by omega, ?_⟩)⟩
      · rw [Nat.testBit_or, bd, bl] at b
        have : rdy s (g 28) t = false := by
          unfold rdy
          cases hl : lks s t with
          | true => simp
          | false =>
            rw [hl, Bool.or_false] at b
            have := of_decide_eq_true b
            rw [decide_eq_false (by omega)]; rfl
        rw [this, if_neg (by decide)] at ih; exact ih
      · rw [Nat.testBit_or, bd, bl, Bool.or_eq_false_iff] at b
        have z1 : s (95 + t) = 0 := by have := of_decide_eq_false b.1; omega
        have er : rdy s (g 28) t = decide (wo N (dnb s (s 1).toNat) = 0) := by
          unfold rdy
          rw [decide_eq_true z1, b.2, eN, Int.toNat_natCast]; rfl
        rw [er] at ih
        rw [eN, eD, xandL_wo (by omega) (by omega)]
        refine ⟨by unfold inL; omega, fun z => ?_, fun z => C_pinBit rfl (by omega) ?_⟩
        · rw [decide_eq_false (by omega), if_neg (by decide)] at ih; exact ih
        · rw [decide_eq_true (by omega), if_pos rfl] at ih
          rw [xorL_pow (bts_62 _ (by omega)) h0 (by omega)]; exact ih
  exact lp 0 (by omega) (by omega)
