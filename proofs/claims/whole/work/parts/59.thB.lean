/-! lawful orders: the class -/
def CT (h : xH) (n : Nat) (L SL : Int → Int) (B : Nat → Nat) : Prop := h 32 0 = n ∧ ∀ j : Nat, j < n → h 33 j = L j ∧ h 34 j = SL j ∧ h 35 j = (B j : Int)
theorem CT.keep {h h' : xH} {n : Nat} {L SL : Int → Int} {B : Nat → Nat} {l : List Nat} (c : CT h n L SL B) (k : kp l h h') (hl : 32 ∉ l ∧ 33 ∉ l ∧ 34 ∉ l ∧ 35 ∉ l) : CT h' n L SL B := by
  unfold CT
  rw [k 32 hl.1, k 33 hl.2.1, k 34 hl.2.2.1, k 35 hl.2.2.2]
  exact c
theorem p2_12 {n : Nat} (h : n ≤ 12) : 2 ^ n ≤ 4096 := two_pow_le (n := 12) h
theorem lt_or {S i : Nat} (h : S.testBit i = false) : S < S ||| 2 ^ i := by
  refine Nat.lt_of_le_of_ne Nat.left_le_or (fun e => ?_)
  have := congrArg (fun x => Nat.testBit x i) e
  simp only [or_bit, h] at this
  simp at this
theorem xorI_i {S i n : Nat} (hn : n ≤ 12) (hS : S < 2 ^ n) (hi : i < n) : xorI (S : Int) (1 * 2 ^ (Int.toNat (i : Int))) = ((S ||| 2 ^ i : Nat) : Int) := by
  have := p2_12 hn
  rw [xorI_p (by omega) (by omega) (by omega), show ((i : Int)).toNat = i by omega]
section TA
variable {d n : Nat} {B : Nat → Nat} {L SL : Int → Int} {h : xH}
theorem C_wholeSet {Q : Int → xH → Prop} (hT : TH n B SL) (c : CT h n L SL B) (hq : Q ((2 ^ n - 1 : Nat) : Int) h) : cI wdC d mX6_wholeSet [.inr (.inr 32)] h Q := by
  have t1 := hT.1
  have p0 := Nat.two_pow_pos n
  refine sg_X6_wholeSet_0 ?_
  rw [c.1]
  refine ⟨by omega, ?_⟩
  rw [show (1 * 2 ^ (Int.toNat (n : Int)) - 1 : Int) = ((2 ^ n - 1 : Nat) : Int) by
    rw [Int.one_mul, show (Int.toNat (n : Int)) = n by omega, pow_nat n]; omega]
  exact hq
theorem C_comesNext {S i : Nat} {T F : xH → Prop} (hT : TH n B SL) (c : CT h n L SL B) (hS : S < 2 ^ n) (hi : i < n) (ht : may B S i = true → T h) (hf : may B S i = false → F h) : cB wdC d mX6_comesNext [.inr (.inr 32), .inl (S : Int), .inl (i : Int)] h T F := by
  have t1 := hT.1
  have p1 := p2_12 t1
  have b1 := hT.2.1 i hi
  have wl : wo (B i) S < 2 ^ 12 := wo_lt (by omega)
  have b01 := bti_01 S i
  refine sg_X6_comesNext_0 ?_
  rw [x_bitI (by omega) (by omega), show ((i : Int)).toNat = i by omega, (c.2 i hi).2.2, xandI_wo (by omega) (by omega)]
  refine ⟨⟨inI_s (by omega) (by omega), by omega, by omega⟩, inI_s (by omega) (by omega), fun z => Or.inr ⟨rfl, hf ?_⟩, fun z => ⟨by omega, inI_s (by omega) (by omega), fun y => Or.inr ⟨rfl, hf ?_⟩, fun y => Or.inl ⟨rfl, ht ?_⟩⟩⟩
  · unfold may
    unfold bti at z
    cases hb : S.testBit i with
    | true => rfl
    | false => rw [hb] at z; exact absurd rfl z
  · unfold may
    rw [decide_eq_false (by omega), Bool.and_false]
  · unfold may
    unfold bti at z
    cases hb : S.testBit i with
    | true => rw [hb] at z; exact absurd z (by decide)
    | false => rw [decide_eq_true (by omega)]; rfl
/-- sets that are met -/
def MK (h : xH) (n : Nat) (B : Nat → Nat) : Prop := (∀ S : Nat, S < 2 ^ n → inI (h 36 S)) ∧ h 36 0 ≠ 0 ∧ ∀ S i : Nat, S < 2 ^ n → h 36 S ≠ 0 → i < n → may B S i = true → h 36 ((S ||| 2 ^ i : Nat) : Int) ≠ 0
theorem xu_one {h1 : xH} {j k : Int} (h0 : h1 36 k = 1) : xu h1 36 j 1 36 k = 1 := by
  by_cases z : k = j
  · rw [z, xu_eq]
  · rw [xu_ne z]; exact h0
theorem C_markMet {Q : xH → Prop} (hd : 1 ≤ d) (hT : TH n B SL) (c : CT h n L SL B) (hq : ∀ h', kp [36] h h' → MK h' n B → Q h') : cV wdC d mX6_markMet [.inr (.inr 32)] h Q := by
  have t1 := hT.1
  have p0 := Nat.two_pow_pos n
  have p1 := p2_12 t1
  have kC : ∀ h1, kp [36] h h1 → CT h1 n L SL B := fun h1 k => c.keep k (by decide)
  have lp : ∀ S : Int, S ≤ ((2 ^ n : Nat) : Int) → 0 ≤ S → ∀ h1 : xH, kp [36] h h1 → (∀ T : Nat, T < 2 ^ n → h1 36 T = 0 ∨ h1 36 T = 1) → h1 36 0 = 1 → (∀ T i : Nat, (T : Int) < S → h1 36 T ≠ 0 → i < n → may B T i = true → h1 36 ((T ||| 2 ^ i : Nat) : Int) = 1) → gV wdC d mX6_markMet 34 [some (.inr (.inr 32)), some (.inl ((2 ^ n - 1 : Nat) : Int)), some (.inl S), none] h1 Q := by
    refine dn ?_ ?_
    · intro _ h1 k v0 v1 cl
      refine sg_X6_markMet_34 ⟨⟨inI_s (by omega) (by omega), inI_s (by omega) (by omega)⟩, fun _ => hq h1 k ⟨fun S hS => ?_, by omega, fun S i hS hm hi hc => ?_⟩, fun z => absurd z (by omega)⟩
      · have := v0 S hS
        exact inI_s (by omega) (by omega)
      · have := cl S i (by omega) hm hi hc
        omega
    · intro S hS ih S0 h1 k v0 v1 cl
      obtain ⟨T, eT⟩ : ∃ T : Nat, S = T := ⟨S.toNat, by omega⟩
      subst eT
      have hTl : T < 2 ^ n := by omega
      have ih := ih (by omega)
      have v := v0 T hTl
      refine sg_X6_markMet_34 ⟨⟨inI_s (by omega) (by omega), inI_s (by omega) (by omega)⟩, fun z => absurd z (by omega), fun _ => ⟨by omega, inI_s (by omega) (by omega), fun z => ?_, fun z => ?_⟩⟩
      · have inn : ∀ i : Int, i ≤ n → 0 ≤ i → ∀ h2 : xH, kp [36] h h2 → (∀ T : Nat, T < 2 ^ n → h2 36 T = 0 ∨ h2 36 T = 1) → h2 36 0 = 1 → (∀ T' i : Nat, T' < T → h2 36 T' ≠ 0 → i < n → may B T' i = true → h2 36 ((T' ||| 2 ^ i : Nat) : Int) = 1) → (∀ j : Nat, (j : Int) < i → may B T j = true → h2 36 ((T ||| 2 ^ j : Nat) : Int) = 1) → gV wdC d mX6_markMet 53 [some (.inr (.inr 32)), some (.inl ((2 ^ n - 1 : Nat) : Int)), some (.inl (T : Int)), some (.inl i)] h2 Q := by
          refine dn ?_ ?_
          · intro _ h2 k2 u0 u1 cl2 cT
            refine sg_X6_markMet_53 hd ?_
            rw [(kC h2 k2).1]
            refine ⟨⟨inI_s (by omega) (by omega), inI_s (by omega) (by omega)⟩, fun _ => ih h2 k2 u0 u1 (fun T' j a b e f => ?_), fun z => absurd z (by omega)⟩
            by_cases y : T' = T
            · rw [y] at f ⊢; exact cT j (by omega) f
            · exact cl2 T' j (by omega) b e f
          · intro i hi ihi i0 h2 k2 u0 u1 cl2 cT
            obtain ⟨I, eI⟩ : ∃ I : Nat, i = I := ⟨i.toNat, by omega⟩
            subst eI
            have ihi := ihi (by omega)
            have oT := or_lt' hTl (i := I) (by omega)
            refine sg_X6_markMet_53 hd ?_
            rw [(kC h2 k2).1, xorI_i (i := I) t1 hTl (by omega)]
            refine ⟨⟨inI_s (by omega) (by omega), inI_s (by omega) (by omega)⟩, fun z => absurd z (by omega), fun _ => C_comesNext hT (kC h2 k2) hTl (by omega) (fun hm => ⟨by omega, by omega, ihi _ (kp_tr k2 (kp_xu (by decide))) (fun T' hT' => ?_) (xu_one u1) (fun T' j a b e f => ?_) (fun j a f => ?_)⟩) (fun hm => ihi h2 k2 u0 u1 cl2 (fun j a f => ?_))⟩
            · by_cases y : (T' : Int) = ((T ||| 2 ^ I : Nat) : Int)
              · rw [y, xu_eq]; exact Or.inr rfl
              · rw [xu_ne y]; exact u0 T' hT'
            · have lt := lt_or (may_t hm).1
              rw [xu_ne (by omega)] at b
              exact xu_one (cl2 T' j a b e f)
            · by_cases y : j = I
              · rw [y, xu_eq]
              · exact xu_one (cT j (by omega) f)
            · by_cases y : j = I
              · rw [y, hm] at f; cases f
              · exact cT j (by omega) f
        exact inn 0 (by omega) (by omega) h1 k v0 v1 (fun T' j a b e f => cl T' j (by omega) b e f) (fun j a => by omega)
      · refine ih h1 k v0 v1 (fun T' j a b e f => ?_)
        by_cases y : T' = T
        · rw [y] at b; exact absurd z b
        · exact cl T' j (by omega) b e f
  have fst : ∀ S : Int, S ≤ ((2 ^ n : Nat) : Int) → 1 ≤ S → ∀ h1 : xH, kp [36] h h1 → (∀ T : Nat, 1 ≤ T → (T : Int) < S → h1 36 T = 0) → gV wdC d mX6_markMet 7 [some (.inr (.inr 32)), some (.inl ((2 ^ n - 1 : Nat) : Int)), some (.inl S), none] h1 Q := by
    refine dn ?_ ?_
    · intro _ h1 k v0
      refine sg_X6_markMet_7 ⟨⟨inI_s (by omega) (by omega), inI_s (by omega) (by omega)⟩, fun _ => lp 0 (by omega) (by omega) _ (kp_tr k (kp_xu (by decide))) (fun T hT' => ?_) xu_eq (fun T i a => by omega), fun z => absurd z (by omega)⟩
      by_cases y : T = 0
      · rw [y, show ((0 : Nat) : Int) = 0 from rfl, xu_eq]; exact Or.inr rfl
      · rw [xu_ne (by omega)]; exact Or.inl (v0 T (by omega) (by omega))
    · intro S hS ih S0 h1 k v0
      refine sg_X6_markMet_7 ⟨⟨inI_s (by omega) (by omega), inI_s (by omega) (by omega)⟩, fun z => absurd z (by omega), fun _ => ⟨by omega, ih (by omega) _ (kp_tr k (kp_xu (by decide))) (fun T a b => ?_)⟩⟩
      by_cases y : (T : Int) = S
      · rw [y, xu_eq]
      · rw [xu_ne y]; exact v0 T a (by omega)
  exact sg_X6_markMet_0 hd (C_wholeSet hT c (fst 1 (by omega) (by omega) h (kp_rf _ _) (fun T a b => by omega)))
/-- ways, of sets that are met -/
def WT (h : xH) (n : Nat) (B : Nat → Nat) (j : Nat) : Prop := ∀ S : Nat, j ≤ S → S < 2 ^ n → h 36 S ≠ 0 → h 37 S = WY B n S
theorem C_lawfulOrders {Q : Int → xH → Prop} (hd : 1 ≤ d) (hT : TH n B SL) (c : CT h n L SL B) (hM : MK h n B) (hl : h 32 1 = 1) (hq : ∀ h', kp [37] h h' → WT h' n B 0 → Q (WY B n 0) h') : cL wdC d mX6_lawfulOrders [.inr (.inr 32)] h Q := by
  have t1 := hT.1
  have p0 := Nat.two_pow_pos n
  have p1 := p2_12 t1
  have kC : ∀ h1, kp [37] h h1 → CT h1 n L SL B := fun h1 k => c.keep k (by decide)
  have rows : ∀ j : Nat, j < 2 ^ n → ∀ h1 : xH, kp [37] h h1 → WT h1 n B j → gL wdC d mX6_lawfulOrders 25 [some (.inr (.inr 32)), none, some (.inl ((j : Int) - 1)), none, none, none] h1 Q := by
    intro j
    induction j with
    | zero =>
      intro _ h1 k hW
      refine sg_X6_lawfulOrders_25 ⟨inI_s (by omega) (by omega), fun _ => ?_, fun z => absurd z (by omega)⟩
      have e := hW 0 (by omega) p0 (by rw [k 36 (by decide)]; exact hM.2.1)
      have e : h1 37 0 = WY B n 0 := e
      rw [e]
      exact hq h1 k hW
    | succ j ih =>
      intro hj h1 k hW
      rw [show ((j + 1 : Nat) : Int) - 1 = (j : Int) by omega]
      have hjl : j < 2 ^ n := by omega
      have mj := hM.1 j hjl
      have e36 : h1 36 = h 36 := k 36 (by decide)
      refine sg_X6_lawfulOrders_25 ⟨inI_s (by omega) (by omega), fun z => absurd z (by omega), fun _ => ⟨by omega, by rw [e36]; exact mj, fun z => ?_, fun z => ?_⟩⟩
      · have hz : zc j n ≠ 0 := fun y => by
          have := (full_iff hjl).mpr y
          omega
        have inn : ∀ i : Int, i ≤ n → 0 ≤ i → gL wdC d mX6_lawfulOrders 46 [some (.inr (.inr 32)), none, some (.inl (j : Int)), some (.inr (.inl (sw (may B j) (fun i => WY B n (j ||| 2 ^ i)) i.toNat))), none, some (.inl i)] h1 Q := by
          refine dn ?_ ?_
          · intro _
            refine sg_X6_lawfulOrders_46 hd ?_
            rw [(kC h1 k).1]
            refine ⟨⟨inI_s (by omega) (by omega), inI_s (by omega) (by omega)⟩, fun _ => ⟨by omega, ?_⟩, fun z => absurd z (by omega)⟩
            rw [show (Int.toNat (n : Int)) = n by omega, ← WY_st hz, show (j : Int) + (-1) = (j : Int) - 1 by omega]
            refine ih hjl _ (kp_tr k (kp_xu (by decide))) (fun S a b e => ?_)
            rw [xu_cn (by decide)] at e
            by_cases y : S = j
            · rw [y, xu_eq]
            · rw [xu_ne (by omega)]; exact hW S (by omega) b e
          · intro i hi ihi i0
            obtain ⟨I, eI⟩ : ∃ I : Nat, i = I := ⟨i.toNat, by omega⟩
            subst eI
            have ihi := ihi (by omega)
            rw [show ((I : Int) + 1).toNat = I + 1 by omega] at ihi
            have oT := or_lt' hjl (i := I) (by omega)
            refine sg_X6_lawfulOrders_46 hd ?_
            rw [(kC h1 k).1, xorI_i (i := I) t1 hjl (by omega), show (Int.toNat (I : Int)) = I by omega]
            refine ⟨⟨inI_s (by omega) (by omega), inI_s (by omega) (by omega)⟩, fun z => absurd z (by omega), fun _ => C_comesNext hT (kC h1 k) hjl (by omega) (fun hm => ⟨by omega, by omega, ?_⟩) (fun hm => ?_)⟩
            · have lt := lt_or (may_t hm).1
              rw [hW (j ||| 2 ^ I) (by omega) oT (by rw [e36]; exact hM.2.2 j I hjl (by rw [← e36]; exact z) (by omega) hm)]
              rw [sw_t hm] at ihi
              exact ihi
            · rw [sw_f hm] at ihi
              exact ihi
        exact inn 0 (by omega) (by omega)
      · rw [show (j : Int) + (-1) = (j : Int) - 1 by omega]
        refine ih hjl h1 k (fun S a b e => ?_)
        by_cases y : S = j
        · rw [y] at e; exact absurd z e
        · exact hW S (by omega) b e
  refine sg_X6_lawfulOrders_0 hd ?_
  rw [hl]
  refine ⟨inI_s (by omega) (by omega), fun _ => C_wholeSet hT c ⟨by omega, ?_⟩, fun z => absurd z (by omega)⟩
  refine rows (2 ^ n - 1) (by omega) _ (kp_xu (by decide)) (fun S a b e => ?_)
  have : S = 2 ^ n - 1 := by omega
  rw [this, xu_eq, WY_full ((full_iff (by omega)).mp rfl)]
theorem C_lawfulOrders0 {Q : Int → xH → Prop} (hd : 1 ≤ d) (hl : h 32 1 = 0) (hq : Q 0 h) : cL wdC d mX6_lawfulOrders [.inr (.inr 32)] h Q := by
  refine sg_X6_lawfulOrders_0 hd ?_
  rw [hl]
  exact ⟨inI_s (by omega) (by omega), fun z => absurd rfl z, fun _ => hq⟩
theorem C_pinOfOrder {k i a : Int} {Q : Int → xH → Prop} (hd : 1 ≤ d) (hT : TH n B SL) (c : CT h n L SL B) (hM : MK h n B) (hW : WT h n B 0) (hi : 0 ≤ i ∧ i < n) (hk : 0 ≤ k ∧ k < WY B n 0) (ho : Od B n L (i.toNat + 1) 0 k (-1) a) (hq : Q a h) : cI wdC d mX6_pinOfOrder [.inr (.inr 32), .inr (.inl k), .inl i] h Q := by
  have t1 := hT.1
  have p0 := Nat.two_pow_pos n
  have p1 := p2_12 t1
  have w0 := WY_b hT p0
  have lp : ∀ (t : Nat) (x6 : Int) (S l : Nat) (r la : Int), (t : Int) + x6 = i + 1 → 0 ≤ x6 → S < 2 ^ n → h 36 S ≠ 0 → l < n → 0 ≤ r ∧ r ≤ k → (x6 ≠ 0 → la = L l) → (t = 0 → x6 ≠ 0) → Od B n L t S r la a → gI wdC d mX6_pinOfOrder 9 [some (.inr (.inr 32)), some (.inr (.inl r)), none, some (.inl i), some (.inl (S : Int)), some (.inl (l : Int)), some (.inl x6), none, none, none] h Q := by
    intro t
    induction t with
    | zero =>
      intro x6 S l r la e x0 hS hm hl hr hla h0 ho
      refine sg_X6_pinOfOrder_9 ⟨⟨inI_s (by omega) (by omega), inI_s (by omega) (by omega)⟩, fun _ => ⟨by omega, ?_⟩, fun z => absurd z (by omega)⟩
      have ho : a = la := ho
      rw [(c.2 l hl).1, ← hla (h0 rfl), ← ho]
      exact hq
    | succ t ih =>
      intro x6 S l r la e x0 hS hm hl hr hla h0 ho
      obtain ⟨j, h1, h2, h3, h4, h5⟩ := ho
      refine sg_X6_pinOfOrder_9 ⟨⟨inI_s (by omega) (by omega), inI_s (by omega) (by omega)⟩, fun z => absurd z (by omega), fun _ => ?_⟩
      have g0 : ∀ i, i < n → may B S i = true → 0 ≤ (fun i => WY B n (S ||| 2 ^ i)) i := fun i hi _ => by
        have := WY_b hT (or_lt' hS hi)
        show (0 : Int) ≤ WY B n (S ||| 2 ^ i)
        omega
      have inn : ∀ x : Int, x ≤ j → 0 ≤ x → ∀ l' : Nat, l' < n → gI wdC d mX6_pinOfOrder 18 [some (.inr (.inr 32)), some (.inr (.inl (r - sw (may B S) (fun i => WY B n (S ||| 2 ^ i)) x.toNat))), none, some (.inl i), some (.inl (S : Int)), some (.inl (l' : Int)), some (.inl x6), some (.inl x), none, none] h Q := by
        refine dn ?_ ?_
        · intro _ l' hl'
          have oT := or_lt' hS h1
          have wj := WY_b hT oT
          have sj := sw_le (P := may B S) (g := fun i => WY B n (S ||| 2 ^ i)) (N := n) g0 j 0 (by omega)
          have s0 : sw (may B S) (fun i => WY B n (S ||| 2 ^ i)) 0 = 0 := rfl
          rw [Nat.zero_add] at sj
          refine sg_X6_pinOfOrder_18 hd ?_
          rw [c.1, xorI_i t1 hS h1, show (Int.toNat (j : Int)) = j by omega]
          refine ⟨⟨inI_s (by omega) (by omega), inI_s (by omega) (by omega)⟩, fun z => absurd z (by omega), fun _ => C_comesNext hT c hS h1 (fun hm2 => ⟨by omega, by omega, ?_⟩) (fun hm2 => by rw [h2] at hm2; cases hm2)⟩
          have m2 := hM.2.2 S j hS hm h1 h2
          rw [hW _ (by omega) oT m2]
          refine ⟨⟨by unfold inL; omega, by unfold inL; omega⟩, fun z => absurd z (by omega), fun _ => ⟨by omega, ?_⟩⟩
          exact ih (x6 + 1) (S ||| 2 ^ j) j _ (L j) (by omega) (by omega) oT m2 h1 (by omega) (fun _ => rfl) (fun _ => by omega) h5
        · intro x hx ihx x0' l' hl'
          obtain ⟨I, eI⟩ : ∃ I : Nat, x = I := ⟨x.toNat, by omega⟩
          subst eI
          have ihx := ihx (by omega)
          rw [show ((I : Int) + 1).toNat = I + 1 by omega] at ihx
          have oT := or_lt' hS (i := I) (by omega)
          have wj := WY_b hT oT
          have sI := sw_le (P := may B S) (g := fun i => WY B n (S ||| 2 ^ i)) (N := n) g0 I 0 (by omega)
          have s0 : sw (may B S) (fun i => WY B n (S ||| 2 ^ i)) 0 = 0 := rfl
          rw [Nat.zero_add] at sI
          have sj := sw_le (P := may B S) (g := fun i => WY B n (S ||| 2 ^ i)) (N := n) g0 (j - (I + 1)) (I + 1) (by omega)
          rw [show I + 1 + (j - (I + 1)) = j by omega] at sj
          refine sg_X6_pinOfOrder_18 hd ?_
          rw [c.1, xorI_i (i := I) t1 hS (by omega), show (Int.toNat (I : Int)) = I by omega]
          refine ⟨⟨inI_s (by omega) (by omega), inI_s (by omega) (by omega)⟩, fun z => absurd z (by omega), fun _ => C_comesNext hT c hS (by omega) (fun hm2 => ⟨by omega, by omega, ?_⟩) (fun hm2 => ?_)⟩
          · have m2 := hM.2.2 S I hS hm (by omega) hm2
            rw [sw_t hm2] at ihx sj
            rw [hW _ (by omega) oT m2]
            have sj : sw (may B S) (fun i => WY B n (S ||| 2 ^ i)) I + WY B n (S ||| 2 ^ I) ≤ sw (may B S) (fun i => WY B n (S ||| 2 ^ i)) j := sj
            refine ⟨⟨by unfold inL; omega, by unfold inL; omega⟩, fun z => ?_, fun z => absurd z (by omega)⟩
            rw [show r - sw (may B S) (fun i => WY B n (S ||| 2 ^ i)) I - WY B n (S ||| 2 ^ I) = r - (sw (may B S) (fun i => WY B n (S ||| 2 ^ i)) I + WY B n (S ||| 2 ^ I)) by omega]
            exact ihx I (by omega)
          · rw [sw_f hm2] at ihx
            exact ihx l' hl'
      have := inn 0 (by omega) (by omega) l hl
      rw [show (0 : Int).toNat = 0 from rfl, show sw (may B S) (fun i => WY B n (S ||| 2 ^ i)) 0 = 0 from rfl, Int.sub_zero] at this
      exact this
  refine sg_X6_pinOfOrder_0 ?_
  exact lp (i.toNat + 1) 0 0 0 k (-1) (by omega) (by omega) p0 hM.2.1 (by omega) (by omega) (fun z => absurd rfl z) (fun z => by omega) ho
end TA
