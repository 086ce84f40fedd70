/-! API mirror, even -/
theorem tst_congr {f g : Int → Int} {n a : Int} (h : ∀ t, 0 ≤ t → t < n → f t = g t) : tst f n a ↔ tst g n a :=
  ⟨fun ⟨t, a0, a1, e⟩ => ⟨t, a0, a1, by rw [← h t a0 a1]; exact e⟩, fun ⟨t, a0, a1, e⟩ => ⟨t, a0, a1, by rw [h t a0 a1]; exact e⟩⟩
theorem tst_post {f f' g : Int → Int} {n : Int} (h : ∀ a, tst f n a ↔ tst f' n a) (a : Int) : tst (fun t => g (f t)) n a ↔ tst (fun t => g (f' t)) n a := by
  rw [tst_map, tst_map]
  constructor
  · intro ⟨b, hb, e⟩; exact ⟨b, (h b).mp hb, e⟩
  · intro ⟨b, hb, e⟩; exact ⟨b, (h b).mpr hb, e⟩
def flT (w x : Int) : Int := x / 16 * 16 + (w - 1 - x % 16)
def flc (w c : Int) : Int := 100 * (w - 1 - c / 100) + c % 100
theorem flT_in {w x : Int} (hw : w ≤ 12) (hx : 0 ≤ x ∧ x < 1600 ∧ x % 16 < w) : 0 ≤ flT w x ∧ flT w x < 1600 ∧ flT w x % 16 < w := by
  unfold flT; omega
theorem flT_inj {w x y : Int} (hw : w ≤ 12) (hx : 0 ≤ x ∧ x < 1600 ∧ x % 16 < w) (hy : 0 ≤ y ∧ y < 1600 ∧ y % 16 < w) (e : flT w x = flT w y) : x = y := by
  unfold flT at e; omega
theorem flc_cvT {w x : Int} (hw : w ≤ 12) (hx : 0 ≤ x ∧ x < 1600 ∧ x % 16 < w) : cvT (flT w x) = flc w (cvT x) := by
  unfold flT flc cvT
  have r0 : 0 ≤ x % 16 := by omega
  have q0 : 0 ≤ x / 16 ∧ x / 16 < 100 := by omega
  have rw' := hx.2.2
  generalize x % 16 = r at *
  generalize x / 16 = q at *
  have e1 : (q * 16 + (w - 1 - r)) / 16 = q := by omega
  have e2 : (q * 16 + (w - 1 - r)) % 16 = w - 1 - r := by omega
  have e3 : (100 * r + q) / 100 = r := by omega
  have e4 : (100 * r + q) % 100 = q := by omega
  rw [e1, e2, e3, e4]
theorem C_flippedTurn {d : Nat} {w x : Int} {h : xH} {Q : Int → xH → Prop} (hd : 1 ≤ d) (hw : h 1 0 = w) (hl : 2 ≤ w ∧ w ≤ 12) (hx : 0 ≤ x ∧ x < 1600 ∧ x % 16 < w) (hq : Q (flT w x) h) : cI wdC d mX3_flippedTurn [.inr (.inr 1), .inl x] h Q := by
  refine sg_X3_flippedTurn_0 hd (C_slotOfTurn ⟨hx.1, hx.2.1⟩ (C_rowOfTurn ⟨hx.1, hx.2.1⟩ (C_turnNumber (by rw [hw]; omega) (by omega) ?_)))
  rw [hw]
  exact hq
theorem C_flippedFill {d : Nat} {f W : Nat} {h : xH} {Q : Int → xH → Prop} (hw : h 1 0 = W) (hl : W ≤ 12) (hf : h 1 1 = f) (hfl : f < 2 ^ W) (hq : ∀ F : Nat, F < 2 ^ W → (∀ j, j < W → F.testBit j = f.testBit (W - 1 - j)) → Q F h) : cI wdC d mX3_flippedFill [.inr (.inr 1)] h Q := by
  have hf12 : f < 2 ^ 12 := Nat.lt_of_lt_of_le hfl (two_pow_le hl)
  have lp : ∀ t : Int, t ≤ W → 0 ≤ t → ∀ F : Nat, (∀ j, F.testBit j = (decide (j < W ∧ W - 1 - j < t.toNat) && f.testBit (W - 1 - j))) → gI wdC d mX3_flippedFill 4 [some (.inr (.inr 1)), some (.inl (F : Int)), some (.inl t)] h Q := by
    refine dn ?_ ?_
    · intro _ F hF
      refine sg_X3_flippedFill_4 ?_
      rw [hw]
      refine ⟨⟨inI_s (by omega) (by omega), inI_s (by omega) (by omega)⟩, fun _ => hq F (lt_of_bits (fun i hi => ?_)) (fun j hj => ?_), fun z => absurd z (by omega)⟩
      · rw [hF, Bool.and_eq_true] at hi
        exact (of_decide_eq_true hi.1).1
      · rw [hF, decide_eq_true (by omega), Bool.true_and]
    · intro t ht ih t0 F hF
      have ih := ih (by omega)
      have Fl : F < 2 ^ W := lt_of_bits (fun i hi => by
        rw [hF, Bool.and_eq_true] at hi
        exact (of_decide_eq_true hi.1).1)
      have Fl12 : F < 2 ^ 12 := Nat.lt_of_lt_of_le Fl (two_pow_le hl)
      refine sg_X3_flippedFill_4 ?_
      rw [hw, hf, x_bitI (by omega) t0]
      refine ⟨⟨inI_s (by omega) (by omega), inI_s (by omega) (by omega)⟩, fun z => absurd z (by omega), fun _ => ⟨⟨inI_s (by omega) (by omega), by omega⟩, ?_, fun z => ih F (fun j => ?_), fun z => ⟨by omega, ?_⟩⟩⟩
      · rcases bti_01 f t.toNat with e | e <;> rw [e] <;> exact inI_s (by omega) (by omega)
      · have hb : f.testBit t.toNat = false := by
          unfold bti at z
          cases hh : f.testBit t.toNat with
          | false => rfl
          | true => rw [hh] at z; exact absurd rfl z
        rw [hF]
        by_cases y : j < W ∧ W - 1 - j = t.toNat
        · rw [y.2, hb, Bool.and_false, Bool.and_false]
        · rw [decide_eq_decide.mpr (show (j < W ∧ W - 1 - j < t.toNat) ↔ (j < W ∧ W - 1 - j < (t + 1).toNat) by omega)]
      · have hb : f.testBit t.toNat = true := by
          unfold bti at z
          cases hh : f.testBit t.toNat with
          | true => rfl
          | false => rw [hh] at z; exact absurd z (by decide)
        rw [xorI_p (by omega) (by omega) (by omega)]
        refine ih _ (fun j => ?_)
        rw [or_bit, hF]
        by_cases y : j = ((W : Int) - 1 - t).toNat
        · rw [decide_eq_true y, Bool.or_true, decide_eq_true (by omega), Bool.true_and, show W - 1 - j = t.toNat by omega, hb]
        · rw [decide_eq_false y, Bool.or_false, decide_eq_decide.mpr (show (j < W ∧ W - 1 - j < t.toNat) ↔ (j < W ∧ W - 1 - j < (t + 1).toNat) by omega)]
  exact sg_X3_flippedFill_0 (lp 0 (by omega) (by omega) 0 (fun j => by rw [Nat.zero_testBit, decide_eq_false (by omega), Bool.false_and]))
/-- what even asks -/
def evP (s : Int → Int) (p : Int) : Prop := ∃ q, 0 ≤ q ∧ q < s 1 ∧ s (5 + q) = s (5 + p) ∧ s (35 + q) = s 0 - 2 - s (35 + p) ∧ s (65 + q) = s (65 + p)
def evT (s : Int → Int) (t : Int) : Prop := tst (fun u => s (137 + u)) (s 2) (flc (s 0) (s (137 + t)))
def evF (s : Int → Int) (k : Int) : Prop := s (125 + k) = s (125 + (s 0 - 1 - k))
def ev (s : Int → Int) : Prop := (∀ p, 0 ≤ p → p < s 1 → evP s p) ∧ (∀ t, 0 ≤ t → t < s 2 → evT s t) ∧ (∀ k, 0 ≤ k → k < s 0 → evF s k)
theorem C_hasLike {d : Nat} {r k st : Int} {h : xH} {s : Int → Int} {T F : xH → Prop} (hW : WFp s) (hR : RPat h 1 2 3 4 5 s) (hr : inI r) (hk : inI k) (hst : inI st) (ht : (∃ q, 0 ≤ q ∧ q < s 1 ∧ s (5 + q) = r ∧ s (35 + q) = k ∧ s (65 + q) = st) → T h) (hf : ¬ (∃ q, 0 ≤ q ∧ q < s 1 ∧ s (5 + q) = r ∧ s (35 + q) = k ∧ s (65 + q) = st) → F h) : cB wdC d mX3_hasLike [.inr (.inr 1), .inl r, .inl k, .inl st] h T F := by
  obtain ⟨w1, w2, w3, w4, w5, w6, w7, w8⟩ := id hW
  obtain ⟨q1, q2, q3, q4, -, q6, q7, q8⟩ := id hR
  have lp : ∀ t : Int, t ≤ s 1 → 0 ≤ t → (∀ q, 0 ≤ q → q < t → ¬ (s (5 + q) = r ∧ s (35 + q) = k ∧ s (65 + q) = st)) → gI wdC d mX3_hasLike 3 [some (.inr (.inr 1)), some (.inl r), some (.inl k), some (.inl st), some (.inl t)] h (fun n h' => (n = 1 ∧ T h') ∨ (n = 0 ∧ F h')) := by
    refine dn ?_ ?_
    · intro _ hn
      refine sg_X3_hasLike_3 ?_
      rw [q2]
      exact ⟨⟨inI_s (by omega) (by omega), inI_s (by omega) (by omega)⟩, fun _ => Or.inr ⟨rfl, hf (fun ⟨q, a, b, c⟩ => hn q a b c)⟩, fun z => absurd z (by omega)⟩
    · intro t ht' ih t0 hn
      have a := w4 t t0 ht'
      have nx : ¬ (s (5 + t) = r ∧ s (35 + t) = k ∧ s (65 + t) = st) → gI wdC d mX3_hasLike 3 [some (.inr (.inr 1)), some (.inl r), some (.inl k), some (.inl st), some (.inl (t + 1))] h (fun n h' => (n = 1 ∧ T h') ∨ (n = 0 ∧ F h')) := fun z => ih (by omega) (fun q b c => by
        by_cases y : q = t
        · rw [y]; exact z
        · exact hn q b (by omega))
      have b := q4 t t0 ht'
      refine sg_X3_hasLike_3 ?_
      rw [q2, b.1, b.2.1, b.2.2]
      exact ⟨⟨inI_s (by omega) (by omega), inI_s (by omega) (by omega)⟩, fun z => absurd z (by omega), fun _ => ⟨by omega, ⟨inI_s (by omega) (by omega), hr⟩, fun z => nx (fun y => z y.1), fun z1 => ⟨by omega, ⟨inI_s (by omega) (by omega), hk⟩, fun z => nx (fun y => z y.2.1), fun z2 => ⟨by omega, ⟨inI_s (by omega) (by omega), hst⟩, fun z => nx (fun y => z y.2.2), fun z3 => Or.inl ⟨rfl, ht ⟨t, t0, ht', z1, z2, z3⟩⟩⟩⟩⟩⟩
  exact sg_X3_hasLike_0 (lp 0 (by omega) (by omega) (fun q a b => by omega))
theorem evT_C {h : xH} {s : Int → Int} (hW : WFp s) (hR : RPat h 1 2 3 4 5 s) : (∀ t, 0 ≤ t → t < s 2 → evT s t) ↔ ∀ t, 0 ≤ t → t < s 2 → tst (h 5) (s 2) (flT (s 0) (h 5 t)) := by
  have w1 := hW.1
  have q6 := hR.2.2.2.2.2.1
  have hE := fun a => hR.tst hW a
  -- a turn is there if its code is
  have key : ∀ x, (0 ≤ x ∧ x < 1600 ∧ x % 16 < s 0) → (tst (h 5) (s 2) x ↔ tst (fun u => s (137 + u)) (s 2) (cvT x)) := fun x hx => by
    rw [← hE, tst_map (f := h 5) (g := cvT)]
    constructor
    · intro z; exact ⟨x, z, rfl⟩
    · intro ⟨b, ⟨t, a0, a1, e⟩, z⟩
      have y := q6 t a0 a1
      have := cvT_inj (by rw [← e]; exact ⟨y.1, y.2.1⟩) ⟨hx.1, hx.2.1⟩ z
      rw [← this]; exact ⟨t, a0, a1, e⟩
  constructor
  · intro z t a b
    have y := q6 t a b
    rw [key _ (flT_in (by omega) y), flc_cvT (by omega) y]
    obtain ⟨u, u0, u1, e⟩ := (hE (cvT (h 5 t))).mp ⟨t, a, b, rfl⟩
    have := z u u0 u1
    unfold evT at this
    rw [show s (137 + u) = cvT (h 5 t) from e] at this
    exact this
  · intro z t a b
    obtain ⟨u, u0, u1, e⟩ := (hE (s (137 + t))).mpr ⟨t, a, b, rfl⟩
    have y := q6 u u0 u1
    have := (key _ (flT_in (by omega) y)).mp (z u u0 u1)
    rw [flc_cvT (by omega) y, show cvT (h 5 u) = s (137 + t) from e] at this
    exact this
theorem evF_C {s : Int → Int} {f F W : Nat} (hW : s 0 = W) (qf : f < 2 ^ W) (qb : ∀ k : Nat, (k : Int) < s 0 → s (125 + k) = bti f k) (hF : F < 2 ^ W) (hb : ∀ j, j < W → F.testBit j = f.testBit (W - 1 - j)) : F = f ↔ ∀ k, 0 ≤ k → k < s 0 → evF s k := by
  have bi : ∀ i j : Nat, bti f i = bti f j ↔ f.testBit i = f.testBit j := fun i j => by
    unfold bti
    cases f.testBit i <;> cases f.testBit j <;> simp
  constructor
  · intro e k a b
    have x1 := qb k.toNat (by omega)
    have x2 := qb (W - 1 - k.toNat) (by omega)
    have y := hb k.toNat (by omega)
    rw [e] at y
    unfold evF
    rw [show (125 : Int) + k = 125 + (k.toNat : Nat) by omega, show s 0 - 1 - k = ((W - 1 - k.toNat : Nat) : Int) by omega, x1, x2]
    exact (bi _ _).mpr y
  · intro z
    apply Nat.eq_of_testBit_eq
    intro j
    by_cases hj : j < W
    · rw [hb j hj]
      have y := z j (by omega) (by omega)
      unfold evF at y
      rw [show s 0 - 1 - (j : Int) = ((W - 1 - j : Nat) : Int) by omega, qb j (by omega), qb _ (by omega)] at y
      exact ((bi _ _).mp y).symm
    · rw [Nat.testBit_lt_two_pow (Nat.lt_of_lt_of_le hF (two_pow_le (by omega))), Nat.testBit_lt_two_pow (Nat.lt_of_lt_of_le qf (two_pow_le (by omega)))]
theorem C_isEven {d : Nat} {h : xH} {s : Int → Int} {T F : xH → Prop} (hd : 2 ≤ d) (hW : WFp s) (hR : RPat h 1 2 3 4 5 s) (hT : ev s → T h) (hF : ¬ ev s → F h) : cB wdC d mX3_isEven [.inr (.inr 1)] h T F := by
  obtain ⟨w1, w2, w3, w4, w5, w6, w7, w8⟩ := id hW
  obtain ⟨q1, q2, q3, q4, ⟨f, q5, qf, qb⟩, q6, q7, q8⟩ := id hR
  have eW : s 0 = ((s 0).toNat : Nat) := by omega
  have hr5 : ∀ t, 0 ≤ t → t < s 2 → 0 ≤ h 5 t ∧ h 5 t < 1600 := fun t a b => ⟨(q6 t a b).1, (q6 t a b).2.1⟩
  have l3 : (∀ t, 0 ≤ t → t < s 2 → evT s t) → (∀ k, 0 ≤ k → k < s 0 → evF s k) → ∀ p : Int, p ≤ s 1 → 0 ≤ p → (∀ q, 0 ≤ q → q < p → evP s q) → gI wdC d mX3_isEven 50 [some (.inr (.inr 1)), some (.inl p)] h (fun n h' => (n = 1 ∧ T h') ∨ (n = 0 ∧ F h')) := by
    intro g1 g2
    refine dn ?_ ?_
    · intro _ hn
      refine sg_X3_isEven_50 (by omega) ?_
      rw [q2]
      exact ⟨⟨inI_s (by omega) (by omega), inI_s (by omega) (by omega)⟩, fun _ => Or.inl ⟨rfl, hT ⟨hn, g1, g2⟩⟩, fun z => absurd z (by omega)⟩
    · intro p hp ih p0 hn
      have a := w4 p p0 hp
      have b := q4 p p0 hp
      refine sg_X3_isEven_50 (by omega) ?_
      rw [q2, q1, b.1, b.2.1, b.2.2]
      refine ⟨⟨inI_s (by omega) (by omega), inI_s (by omega) (by omega)⟩, fun z => absurd z (by omega), fun _ => ⟨by omega, by omega, by omega, C_hasLike hW hR (inI_s (by omega) (by omega)) (inI_s (by omega) (by omega)) (inI_s (by omega) (by omega)) (fun z => ih (by omega) (fun q c e => ?_)) (fun z => Or.inr ⟨rfl, hF (fun y => z (y.1 p p0 hp))⟩)⟩⟩
      by_cases y : q = p
      · rw [y]; exact z
      · exact hn q c (by omega)
  have l2 : (∀ k, 0 ≤ k → k < s 0 → evF s k) → ∀ t : Int, t ≤ s 2 → 0 ≤ t → (∀ u, 0 ≤ u → u < t → tst (h 5) (s 2) (flT (s 0) (h 5 u))) → gI wdC d mX3_isEven 15 [some (.inr (.inr 1)), some (.inl t)] h (fun n h' => (n = 1 ∧ T h') ∨ (n = 0 ∧ F h')) := by
    intro g2
    refine dn ?_ ?_
    · intro _ hn
      refine sg_X3_isEven_15 (by omega) ?_
      rw [q3]
      exact ⟨⟨inI_s (by omega) (by omega), inI_s (by omega) (by omega)⟩, fun _ => l3 ((evT_C hW hR).mpr hn) g2 0 (by omega) (by omega) (fun q a b => by omega), fun z => absurd z (by omega)⟩
    · intro t ht ih t0 hn
      have a := q6 t t0 ht
      have fb := flT_in (w := s 0) (by omega) a
      refine sg_X3_isEven_15 (by omega) ?_
      rw [q3]
      refine ⟨⟨inI_s (by omega) (by omega), inI_s (by omega) (by omega)⟩, fun z => absurd z (by omega), fun _ => ⟨by omega, C_flippedTurn (by omega) q1 w1 a (C_placeOfTurn q3 w3 hr5 (inI_s (by omega) (by omega)) (fun r ir x y => ⟨ir, fun z => ih (by omega) (fun u c e => ?_), fun z => Or.inr ⟨rfl, hF (fun v => x z ((evT_C hW hR).mp v.2.1 t t0 ht))⟩⟩))⟩⟩
      by_cases v : u = t
      · rw [v]; exact ⟨r, z, (y z).1, (y z).2⟩
      · exact hn u c (by omega)
  refine sg_X3_isEven_0 (by omega) (C_flippedFill (W := (s 0).toNat) (by rw [q1]; exact eW) (by omega) q5 qf (fun F hFl hb => ?_))
  have f12 : f < 2 ^ 12 := Nat.lt_of_lt_of_le qf (two_pow_le (by omega))
  have F12 : F < 2 ^ 12 := Nat.lt_of_lt_of_le hFl (two_pow_le (by omega))
  have k := evF_C eW qf qb hFl hb
  rw [q5]
  exact ⟨⟨inI_s (by omega) (by omega), inI_s (by omega) (by omega)⟩, fun z => l2 (k.mp (by omega)) 0 (by omega) (by omega) (fun u a b => by omega), fun z => Or.inr ⟨rfl, hF (fun y => z (by rw [k.mpr y.2.2]))⟩⟩
