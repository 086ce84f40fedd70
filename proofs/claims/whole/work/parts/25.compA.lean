/-! the class: small methods of Pattern and LacePins -/
theorem C_isRow {d : Nat} {x : Int} {h : xH} {T F : xH → Prop} (hx : inI x) (ht : 0 ≤ x ∧ x ≤ 99 → T h) (hf : ¬ (0 ≤ x ∧ x ≤ 99) → F h) : cB wdC d mX7_isRow [.inl x] h T F :=
  sg_X7_isRow_0 ⟨hx, fun q => Or.inr ⟨rfl, hf (by omega)⟩, fun q => ⟨hx, fun q2 => Or.inr ⟨rfl, hf (by omega)⟩, fun q2 => Or.inl ⟨rfl, ht (by omega)⟩⟩⟩
theorem C_isStitch {d : Nat} {x : Int} {h : xH} {T F : xH → Prop} (hx : inI x) (ht : 0 ≤ x ∧ x ≤ 4 → T h) (hf : ¬ (0 ≤ x ∧ x ≤ 4) → F h) : cB wdC d mX7_isStitch [.inl x] h T F :=
  sg_X7_isStitch_0 ⟨hx, fun q => Or.inr ⟨rfl, hf (by omega)⟩, fun q => ⟨hx, fun q2 => Or.inr ⟨rfl, hf (by omega)⟩, fun q2 => Or.inl ⟨rfl, ht (by omega)⟩⟩⟩
theorem C_isSlot {d : Nat} {x : Int} {h : xH} {T F : xH → Prop} (hx : inI x) (hw : 0 ≤ h 1 0 ∧ h 1 0 ≤ 12) (ht : 0 ≤ x ∧ x < h 1 0 → T h) (hf : ¬ (0 ≤ x ∧ x < h 1 0) → F h) : cB wdC d mX3_isSlot [.inr (.inr 1), .inl x] h T F :=
  sg_X3_isSlot_0 ⟨hx, fun q => Or.inr ⟨rfl, hf (by omega)⟩, fun q => ⟨⟨hx, inI_s (by omega) (by omega)⟩, fun q2 => Or.inr ⟨rfl, hf (by omega)⟩, fun q2 => Or.inl ⟨rfl, ht (by omega)⟩⟩⟩
theorem C_isPinSlot {d : Nat} {x : Int} {h : xH} {T F : xH → Prop} (hx : inI x) (hw : 0 ≤ h 1 0 ∧ h 1 0 ≤ 12) (ht : 0 ≤ x ∧ x ≤ h 1 0 - 2 → T h) (hf : ¬ (0 ≤ x ∧ x ≤ h 1 0 - 2) → F h) : cB wdC d mX3_isPinSlot [.inr (.inr 1), .inl x] h T F :=
  sg_X3_isPinSlot_0 ⟨hx, fun q => Or.inr ⟨rfl, hf (by omega)⟩, fun q => ⟨⟨hx, inI_s (by omega) (by omega)⟩, fun q2 => Or.inr ⟨rfl, hf (by omega)⟩, fun q2 => Or.inl ⟨rfl, ht (by omega)⟩⟩⟩
theorem C_isPin {d : Nat} {x : Int} {h : xH} {T F : xH → Prop} (hx : inI x) (hw : 0 ≤ h 1 2 ∧ h 1 2 ≤ 30) (ht : 0 ≤ x ∧ x < h 1 2 → T h) (hf : ¬ (0 ≤ x ∧ x < h 1 2) → F h) : cB wdC d mX3_isPin [.inr (.inr 1), .inl x] h T F :=
  sg_X3_isPin_0 ⟨hx, fun q => Or.inr ⟨rfl, hf (by omega)⟩, fun q => ⟨⟨hx, inI_s (by omega) (by omega)⟩, fun q2 => Or.inr ⟨rfl, hf (by omega)⟩, fun q2 => Or.inl ⟨rfl, ht (by omega)⟩⟩⟩
theorem C_isThread {d : Nat} {x : Int} {h : xH} {T F : xH → Prop} (hx : inI x) (hw : 0 ≤ h 1 0 ∧ h 1 0 ≤ 12) (ht : 0 ≤ x ∧ x < 2 * h 1 0 → T h) (hf : ¬ (0 ≤ x ∧ x < 2 * h 1 0) → F h) : cB wdC d mX7_isThread [.inr (.inr 0), .inl x] h T F :=
  sg_X7_isThread_0 ⟨hx, fun q => Or.inr ⟨rfl, hf (by omega)⟩, fun q => ⟨⟨hx, inI_s (by omega) (by omega)⟩, fun q2 => Or.inr ⟨rfl, hf (by omega)⟩, fun q2 => Or.inl ⟨rfl, ht (by omega)⟩⟩⟩
theorem C_anyDone {d : Nat} {h : xH} {T F : xH → Prop} (hw : 0 ≤ h 6 3 ∧ h 6 3 ≤ 30) (ht : 0 < h 6 3 → T h) (hf : h 6 3 = 0 → F h) : cB wdC d mX7_anyDone [.inr (.inr 0)] h T F :=
  sg_X7_anyDone_0 ⟨inI_s (by omega) (by omega), fun q => Or.inr ⟨rfl, hf (by omega)⟩, fun q => Or.inl ⟨rfl, ht q⟩⟩
theorem C_isList {d : Nat} {x : Int} {h : xH} {T F : xH → Prop} (hx : inI x) (ht : 0 ≤ x ∧ x < 4 → T h) (hf : ¬ (0 ≤ x ∧ x < 4) → F h) : cB wdC d mX4_isList [.inr (.inr 50), .inl x] h T F :=
  sg_X4_isList_0 ⟨hx, fun q => Or.inr ⟨rfl, hf (by omega)⟩, fun q => ⟨hx, fun q2 => Or.inr ⟨rfl, hf (by omega)⟩, fun q2 => Or.inl ⟨rfl, ht (by omega)⟩⟩⟩
theorem C_holds {d : Nat} {x : Int} {h : xH} {T F : xH → Prop} (hx : 0 ≤ x ∧ x < 4) (hs : -1 ≤ h 51 x ∧ h 51 x ≤ 30) (ht : 0 ≤ h 51 x → T h) (hf : h 51 x < 0 → F h) : cB wdC d mX4_holds [.inr (.inr 50), .inl x] h T F :=
  sg_X4_holds_0 ⟨hx, inI_s (by omega) (by omega), fun q => Or.inr ⟨rfl, hf (by omega)⟩, fun q2 => Or.inl ⟨rfl, ht (by omega)⟩⟩
theorem C_hasPlace {d : Nat} {x i : Int} {h : xH} {T F : xH → Prop} (hx : 0 ≤ x ∧ x < 4) (hi : inI i) (hs : -1 ≤ h 51 x ∧ h 51 x ≤ 30) (ht : 0 ≤ i ∧ i < h 51 x → T h) (hf : ¬ (0 ≤ i ∧ i < h 51 x) → F h) : cB wdC d mX4_hasPlace [.inr (.inr 50), .inl x, .inl i] h T F :=
  sg_X4_hasPlace_0 ⟨hi, fun q => Or.inr ⟨rfl, hf (by omega)⟩, fun q => ⟨hx, ⟨hi, inI_s (by omega) (by omega)⟩, fun q2 => Or.inr ⟨rfl, hf (by omega)⟩, fun q2 => Or.inl ⟨rfl, ht (by omega)⟩⟩⟩
theorem C_pinBit {wd : List xE} {d : Nat} {x : Int} {h : xH} {Q : Int → xH → Prop} (hw : wd = wdC) (hx : 0 ≤ x ∧ x ≤ 61) (hq : Q ((2 ^ x.toNat : Nat) : Int) h) : cL wd d mX7_pinBit [.inl x] h Q := by
  subst hw
  refine sg_X7_pinBit_0 ⟨by omega, ?_⟩
  rw [Int.one_mul, pow_nat]
  exact hq
theorem C_hasPin {d : Nat} {a : Nat} {x : Int} {h : xH} {T F : xH → Prop} (hd : 1 ≤ d) (ha : a < 2 ^ 62) (hx : 0 ≤ x ∧ x ≤ 61) (ht : a.testBit x.toNat = true → T h) (hf : a.testBit x.toNat = false → F h) : cB wdC d mX7_hasPin [.inr (.inl a), .inl x] h T F := by
  refine sg_X7_hasPin_0 hd ?_
  refine C_pinBit rfl hx ?_
  rw [xandL_nat (by omega)]
  have hl : a &&& 2 ^ x.toNat < 2 ^ 62 := Nat.lt_of_le_of_lt Nat.and_le_left ha
  refine ⟨by unfold inL; omega, fun q => Or.inr ⟨rfl, hf ?_⟩, fun q => Or.inl ⟨rfl, ht ?_⟩⟩
  · exact (and_pow_eq0 _ _).mp (by omega)
  · cases hb : a.testBit x.toNat with
    | true => rfl
    | false => exact absurd ((and_pow_eq0 _ _).mpr hb) (by omega)
theorem C_hasPinI {d : Nat} {a : Nat} {x : Int} {h : xH} {Q : Int → xH → Prop} (hd : 1 ≤ d) (ha : a < 2 ^ 62) (hx : 0 ≤ x ∧ x ≤ 61) (hq : Q (bti a x.toNat) h) : cI wdC d mX7_hasPin [.inr (.inl a), .inl x] h Q := by
  refine sg_X7_hasPin_0 hd ?_
  refine C_pinBit rfl hx ?_
  rw [xandL_nat (by omega)]
  have hl : a &&& 2 ^ x.toNat < 2 ^ 62 := Nat.lt_of_le_of_lt Nat.and_le_left ha
  unfold bti at hq
  refine ⟨by unfold inL; omega, fun q => ?_, fun q => ?_⟩
  · rw [(and_pow_eq0 _ _).mp (by omega)] at hq; exact hq
  · cases hb : a.testBit x.toNat with
    | true => rw [hb] at hq; exact hq
    | false => exact absurd ((and_pow_eq0 _ _).mpr hb) (by omega)
theorem C_slotOfTurn {d : Nat} {x : Int} {h : xH} {Q : Int → xH → Prop} (hx : 0 ≤ x ∧ x < 1600) (hq : Q (x % 16) h) : cI wdC d mX3_slotOfTurn [.inl x] h Q := by
  refine sg_X3_slotOfTurn_0 ?_
  obtain ⟨n, rfl⟩ := Int.eq_ofNat_of_zero_le hx.1
  rw [show (15 : Int) = ((15 : Nat) : Int) from rfl, xandI_nat (by omega), mod16_nat]
  exact hq
theorem C_rowOfTurn {d : Nat} {x : Int} {h : xH} {Q : Int → xH → Prop} (hx : 0 ≤ x ∧ x < 1600) (hq : Q (x / 16) h) : cI wdC d mX3_rowOfTurn [.inl x] h Q := by
  refine sg_X3_rowOfTurn_0 ⟨inI_s (by omega) (by omega), ?_⟩
  exact hq
theorem C_turnNumber {d : Nat} {k r : Int} {h : xH} {Q : Int → xH → Prop} (hk : 0 ≤ k ∧ k < 16) (hr : 0 ≤ r ∧ r ≤ 99) (hq : Q (r * 16 + k) h) : cI wdC d mX3_turnNumber [.inl k, .inl r] h Q := by
  refine sg_X3_turnNumber_0 ?_
  obtain ⟨n, rfl⟩ := Int.eq_ofNat_of_zero_le hk.1
  obtain ⟨j, rfl⟩ := Int.eq_ofNat_of_zero_le hr.1
  rw [show ((j : Int) * 2 ^ (Int.toNat 4)) = ((j * 16 : Nat) : Int) by simp, xorI_nat (by omega) (by omega), or16_nat (by omega)]
  have e : ((j * 16 + n : Nat) : Int) = (j : Int) * 16 + n := by omega
  rw [e]; exact hq
/-- parity is that of a count -/
theorem par_cnt (g : Nat → Int) (P : Int → Bool) : ∀ n : Nat, (decide (((List.range (n + 1)).map g).countP P % 2 = 1)) = (decide (((List.range n).map g).countP P % 2 = 1)).xor (P (g n)) := by
  intro n
  rw [List.range_succ, List.map_append, List.countP_append]
  generalize ((List.range n).map g).countP P = c
  cases hp : P (g n) with
  | false => simp [hp]
  | true =>
    rcases (show c % 2 = 0 ∨ c % 2 = 1 by omega) with e | e
    · have e2 : (c + 1) % 2 = 1 := by omega
      simp [hp, e, e2]
    · have e2 : (c + 1) % 2 = 0 := by omega
      simp [hp, e, e2]
theorem tpar_cnt (s : Int → Int) (k r : Int) : ∀ n : Nat, tpar s k r n = decide (((List.range n).map (fun t : Nat => s (137 + t))).countP (fun c => decide (c / 100 = k ∧ c % 100 ≤ r)) % 2 = 1) := by
  intro n
  induction n with
  | zero => rfl
  | succ n ih => rw [par_cnt (fun t : Nat => s (137 + t)), tpar, ih]
/-- the same over the class's turns -/
def tpC (f : Int → Int) (k r : Int) : Nat → Bool
  | 0 => false
  | t + 1 => (tpC f k r t).xor (decide (f t % 16 = k ∧ f t / 16 ≤ r))
theorem tpC_cnt {f : Int → Int} {m : Int} (hf : ∀ t, 0 ≤ t → t < m → 0 ≤ f t ∧ f t < 1600) (k r : Int) : ∀ n : Nat, (n : Int) ≤ m → tpC f k r n = decide (((List.range n).map (fun t : Nat => 100 * (f t % 16) + f t / 16)).countP (fun c => decide (c / 100 = k ∧ c % 100 ≤ r)) % 2 = 1) := by
  intro n
  induction n with
  | zero => intro _; rfl
  | succ n ih =>
    intro hn
    have a := hf n (by omega) (by omega)
    rw [par_cnt (fun t : Nat => 100 * (f t % 16) + f t / 16), tpC, ih (by omega)]
    congr 1
    have e1 : (100 * (f n % 16) + f n / 16) / 100 = f n % 16 := by omega
    have e2 : (100 * (f n % 16) + f n / 16) % 100 = f n / 16 := by omega
    simp only [e1, e2]
theorem tp_same {h : xH} {s : Int → Int} {c r0 sl st tu : Nat} (hW : WFp s) (hR : RPat h c r0 sl st tu s) (k r : Int) : tpC (h tu) k r (s 2).toNat = tpar s k r (s 2).toNat := by
  obtain ⟨q1, q2, q3, q4, q5, q6, q7, q8⟩ := hR
  have w3 := hW.2.2.1
  rw [tpC_cnt (m := s 2) (fun t a b => ⟨(q6 t a b).1, (q6 t a b).2.1⟩) k r _ (by omega), tpar_cnt, q8.countP_eq]
  rfl
theorem C_isFilledI {d : Nat} {k r : Int} {h : xH} {s : Int → Int} {Q : Int → xH → Prop} (hd : 1 ≤ d) (hW : WFp s) (hR : RPat h 1 2 3 4 5 s) (hk : 0 ≤ k ∧ k < s 0) (hr : inI r) (hq : Q (b2i (isF s k r)) h) : cI wdC d mX3_isFilled [.inr (.inr 1), .inl k, .inl r] h Q := by
  obtain ⟨w1, w2, w3, w4, w5, w6, w7, w8⟩ := id hW
  obtain ⟨q1, q2, q3, q4, ⟨f, q5, qf, qb⟩, q6, q7, q8⟩ := id hR
  have hlp : ∀ t : Int, t ≤ s 2 → 0 ≤ t → gI wdC d mX3_isFilled 21 [some (.inr (.inr 1)), some (.inl k), some (.inl r), some (.inl (b2i ((decide (s (125 + k) = 1)).xor (tpC (h 5) k r t.toNat)))), some (.inl t)] h Q := by
    refine dn ?_ ?_
    · intro h0
      rw [tp_same hW hR]
      exact sg_X3_isFilled_21 hd ⟨⟨inI_s (by omega) (by omega), inI_s (by omega) (by omega)⟩, fun _ => ⟨b2i_01 _, hq⟩, fun z => absurd z (by omega)⟩
    · intro t ht ih h0
      have a1 := q6 t h0 ht
      have e : (t + 1).toNat = t.toNat + 1 := by omega
      have et : ((t.toNat : Nat) : Int) = t := by omega
      have ih := ih (by omega)
      rw [e, tpC, et] at ih
      refine sg_X3_isFilled_21 hd ⟨⟨inI_s (by omega) (by omega), inI_s (by omega) (by omega)⟩, fun z => absurd z (by omega), fun _ => ⟨by omega, C_slotOfTurn ⟨a1.1, a1.2.1⟩ ⟨⟨inI_s (by omega) (by omega), inI_s (by omega) (by omega)⟩, fun q => ?_, fun q => ⟨by omega, C_rowOfTurn ⟨a1.1, a1.2.1⟩ ⟨⟨inI_s (by omega) (by omega), hr⟩, fun q2 => ?_, fun q2 => ⟨b2i_in _, fun q3 => ?_, fun q3 => ?_⟩⟩⟩⟩⟩⟩
      · rw [show decide (h 5 t % 16 = k ∧ h 5 t / 16 ≤ r) = false from decide_eq_false (fun z => q z.1), Bool.xor_false] at ih
        exact ih
      · rw [show decide (h 5 t % 16 = k ∧ h 5 t / 16 ≤ r) = false from decide_eq_false (fun z => by omega), Bool.xor_false] at ih
        exact ih
      · rw [show decide (h 5 t % 16 = k ∧ h 5 t / 16 ≤ r) = true from decide_eq_true ⟨q, q2⟩, Bool.xor_true] at ih
        cases hx : decide (s (125 + k) = 1) <;> rw [hx] at ih q3 <;> cases hy : tpC (h 5) k r t.toNat <;> rw [hy] at ih q3 <;> first | exact ih | exact absurd rfl q3
      · rw [show decide (h 5 t % 16 = k ∧ h 5 t / 16 ≤ r) = true from decide_eq_true ⟨q, q2⟩, Bool.xor_true] at ih
        cases hx : decide (s (125 + k) = 1) <;> rw [hx] at ih q3 <;> cases hy : tpC (h 5) k r t.toNat <;> rw [hy] at ih q3 <;> first | exact ih | exact absurd q3 (by decide)
  have h1 := hlp 0 (by omega) (by omega)
  have f31 : f < 2147483648 := Nat.lt_of_lt_of_le qf (Nat.le_trans (two_pow_le (show (s 0).toNat ≤ 31 by omega)) (by omega))
  have ek : ((k.toNat : Nat) : Int) = k := by omega
  have hb := qb k.toNat (by omega)
  rw [ek] at hb
  have := bti_01 f k.toNat
  refine sg_X3_isFilled_0 ⟨⟨by rw [q5]; unfold inI; omega, by omega, by omega⟩, ?_⟩
  rw [q5, x_bitI f31 hk.1, ← hb]
  refine ⟨inI_s (by omega) (by omega), fun q => ?_, fun q => ?_⟩
  · rw [decide_eq_false q] at h1; exact h1
  · rw [decide_eq_true q] at h1; exact h1
theorem C_isFilled {d : Nat} {k r : Int} {h : xH} {s : Int → Int} {T F : xH → Prop} (hd : 1 ≤ d) (hW : WFp s) (hR : RPat h 1 2 3 4 5 s) (hk : 0 ≤ k ∧ k < s 0) (hr : inI r) (ht : isF s k r = true → T h) (hf : isF s k r = false → F h) : cB wdC d mX3_isFilled [.inr (.inr 1), .inl k, .inl r] h T F :=
  cB_of (b := isF s k r) (fun _ hq => C_isFilledI hd hW hR hk hr hq) ht hf
theorem C_lacksPairI {d : Nat} {p : Int} {h : xH} {s : Int → Int} {Q : Int → xH → Prop} (hd : 2 ≤ d) (hW : WFp s) (hR : RPat h 1 2 3 4 5 s) (hp : 0 ≤ p ∧ p < s 1) (hq : Q (b2i (lks s p)) h) : cI wdC d mX3_lacksPair [.inr (.inr 1), .inl p] h Q := by
  obtain ⟨w1, w2, w3, w4, w5, w6, w7, w8⟩ := id hW
  obtain ⟨q1, q2, q3, q4, -, q6, q7, q8⟩ := id hR
  have a1 := w4 p hp.1 hp.2
  have a2 := q4 p hp.1 hp.2
  unfold lks at hq
  rw [← a2.1, ← a2.2.1] at hq
  refine sg_X3_lacksPair_0 (by omega) ⟨by omega, by omega, C_isFilled (by omega) hW hR (by omega) (inI_s (by omega) (by omega)) (fun b => C_isFilled (by omega) hW hR (by omega) (inI_s (by omega) (by omega)) (fun b2 => ?_) (fun b2 => ?_)) (fun b => ?_)⟩
  · rw [b, b2] at hq; exact hq
  · rw [b, b2] at hq; exact hq
  · rw [b] at hq; exact hq
theorem C_lacksPair {d : Nat} {p : Int} {h : xH} {s : Int → Int} {T F : xH → Prop} (hd : 2 ≤ d) (hW : WFp s) (hR : RPat h 1 2 3 4 5 s) (hp : 0 ≤ p ∧ p < s 1) (ht : lks s p = true → T h) (hf : lks s p = false → F h) : cB wdC d mX3_lacksPair [.inr (.inr 1), .inl p] h T F :=
  cB_of (b := lks s p) (fun _ hq => C_lacksPairI hd hW hR hp hq) ht hf
