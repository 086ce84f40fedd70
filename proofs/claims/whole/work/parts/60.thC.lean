/-! lawful orders: the class, least travel -/
def TB38 (h : xH) (n : Nat) (B : Nat → Nat) (SL : Int → Int) (j : Nat) : Prop := ∀ S i : Nat, j < S → S < 2 ^ n → h 36 S ≠ 0 → i < n → S.testBit i = true → h 38 ((S * 12 + i : Nat) : Int) = LT B SL n S (SL i)
theorem C_placeOf {d : Nat} {S i : Nat} {h : xH} {Q : Int → xH → Prop} (hq : Q ((S * 12 + i : Nat) : Int) h) : cI wdC d mX6_placeOf [.inl (S : Int), .inl (i : Int)] h Q := by
  refine sg_X6_placeOf_0 ?_
  rw [show (S : Int) * 12 + i = ((S * 12 + i : Nat) : Int) by omega]
  exact hq
theorem or_self (S i : Nat) : (S ||| 2 ^ i).testBit i = true := by rw [or_bit, decide_eq_true rfl, Bool.or_true]
section TC
variable {d n : Nat} {B : Nat → Nat} {L SL : Int → Int} {h : xH}
theorem C_travelBy {S i : Nat} {f : Int} {Q : Int → xH → Prop} (hd : 1 ≤ d) (hT : TH n B SL) (c : CT h n L SL B) (hS : S < 2 ^ n) (hi : i < n) (hf : 0 ≤ f ∧ f ≤ 11) (hb : S.testBit i = false) (hm : h 36 ((S ||| 2 ^ i : Nat) : Int) ≠ 0) (h8 : TB38 h n B SL S) (hq : Q (lg1 B SL n S f i) h) : cI wdC d mX6_travelBy [.inr (.inr 32), .inl (S : Int), .inl f, .inl (i : Int)] h Q := by
  have t1 := hT.1
  have p1 := p2_12 t1
  have oT := or_lt' hS hi
  have sl := hT.2.2.1 i hi
  refine sg_X6_travelBy_0 hd ?_
  rw [xorI_i t1 hS hi, (c.2 i hi).2.1]
  refine ⟨by omega, inI_s (by omega) (by omega), by omega, C_placeOf ⟨by omega, ?_⟩⟩
  rw [h8 (S ||| 2 ^ i) i (lt_or hb) oT hm hi (or_self S i)]
  exact hq
theorem mf_in {S : Nat} {f : Int} (hT : TH n B SL) (hS : S < 2 ^ n) (hf : 0 ≤ f ∧ f ≤ 11) (I : Nat) (hI : I ≤ n) : -1 ≤ mf (may B S) (lg1 B SL n S f) I ∧ mf (may B S) (lg1 B SL n S f) I ≤ 143 := by
  rcases mf_spec (P := may B S) (g := lg1 B SL n S f) I (fun i hi hm => (lg1_b hT hS hf (by omega)).1) with ⟨h1, h2⟩ | ⟨h0, i, h1, h2, h3, _⟩
  · omega
  · have := lg1_b hT hS hf (i := i) (by omega)
    omega
theorem C_leastFrom {S : Nat} {f : Int} {Q : Int → xH → Prop} (hd : 2 ≤ d) (hT : TH n B SL) (c : CT h n L SL B) (hM : MK h n B) (hS : S < 2 ^ n) (hm : h 36 S ≠ 0) (hf : 0 ≤ f ∧ f ≤ 11) (h8 : TB38 h n B SL S) (hq : Q (LT B SL n S f) h) : cI wdC d mX6_leastFrom [.inr (.inr 32), .inl (S : Int), .inl f] h Q := by
  have t1 := hT.1
  have p1 := p2_12 t1
  have lp : ∀ i : Int, i ≤ n → 0 ≤ i → gI wdC d mX6_leastFrom 5 [some (.inr (.inr 32)), some (.inl (S : Int)), some (.inl f), some (.inl (mf (may B S) (lg1 B SL n S f) i.toNat)), some (.inl i), none] h Q := by
    refine dn ?_ ?_
    · intro _
      have mb := mf_in hT hS hf n (Nat.le_refl _)
      refine sg_X6_leastFrom_5 (by omega) ?_
      rw [c.1, show (Int.toNat (n : Int)) = n by omega]
      refine ⟨⟨inI_s (by omega) (by omega), inI_s (by omega) (by omega)⟩, fun _ => ⟨inI_s (by omega) (by omega), ?_⟩, fun z => absurd z (by omega)⟩
      rw [LT_mx hT hS hf]
      exact hq
    · intro i hi ih i0
      obtain ⟨I, eI⟩ : ∃ I : Nat, i = I := ⟨i.toNat, by omega⟩
      subst eI
      have ih := ih (by omega)
      rw [show ((I : Int) + 1).toNat = I + 1 by omega] at ih
      have mb := mf_in hT hS hf I (by omega)
      refine sg_X6_leastFrom_5 (by omega) ?_
      rw [c.1, show (Int.toNat (I : Int)) = I by omega]
      refine ⟨⟨inI_s (by omega) (by omega), inI_s (by omega) (by omega)⟩, fun z => absurd z (by omega), fun _ => C_comesNext hT c hS (by omega) (fun hm2 => ?_) (fun hm2 => ?_)⟩
      · have lb := lg1_b hT hS hf (i := I) (by omega)
        rw [mf_t hm2] at ih
        refine C_travelBy (by omega) hT c hS (by omega) hf (may_t hm2).1 (hM.2.2 S I hS hm (by omega) hm2) h8 ⟨inI_s (by omega) (by omega), fun z => ?_, fun z => ⟨⟨inI_s (by omega) (by omega), inI_s (by omega) (by omega)⟩, fun y => ?_, fun y => ?_⟩⟩
        · rw [if_pos (Or.inl z)] at ih; exact ih
        · rw [if_neg (by omega)] at ih; exact ih
        · rw [if_pos (Or.inr y)] at ih; exact ih
      · rw [mf_f hm2] at ih
        exact ih
  exact sg_X6_leastFrom_0 (lp 0 (by omega) (by omega))
theorem C_leastTravel {f : Int} {Q : Int → xH → Prop} (hd : 3 ≤ d) (hT : TH n B SL) (c : CT h n L SL B) (hM : MK h n B) (hf : 0 ≤ f ∧ f ≤ 11) (hq : ∀ h', kp [38] h h' → TB38 h' n B SL 0 → Q (LT B SL n 0 f) h') : cI wdC d mX6_leastTravel [.inr (.inr 32), .inl f] h Q := by
  have t1 := hT.1
  have p0 := Nat.two_pow_pos n
  have p1 := p2_12 t1
  have kC : ∀ h1, kp [38] h h1 → CT h1 n L SL B := fun h1 k => c.keep k (by decide)
  have kM : ∀ h1, kp [38] h h1 → MK h1 n B := fun h1 k => by unfold MK; rw [k 36 (by decide)]; exact hM
  have rows : ∀ j : Nat, j < 2 ^ n → ∀ h1 : xH, kp [38] h h1 → TB38 h1 n B SL j → gI wdC d mX6_leastTravel 7 [some (.inr (.inr 32)), some (.inl f), none, some (.inl (j : Int)), none] h1 Q := by
    intro j
    induction j with
    | zero =>
      intro _ h1 k h8
      refine sg_X6_leastTravel_7 (by omega) ⟨inI_s (by omega) (by omega), fun _ => ?_, fun z => absurd z (by omega)⟩
      exact C_leastFrom (S := 0) (by omega) hT (kC h1 k) (kM h1 k) p0 (kM h1 k).2.1 hf h8 (hq h1 k h8)
    | succ j ih =>
      intro hj h1 k h8
      have mj := hM.1 (j + 1) hj
      have e36 : h1 36 = h 36 := k 36 (by decide)
      have low : ∀ h2, kp [38] h h2 → TB38 h2 n B SL (j + 1) → (∀ i : Nat, i < n → (j + 1).testBit i = true → h2 36 ((j + 1 : Nat) : Int) ≠ 0 → h2 38 (((j + 1) * 12 + i : Nat) : Int) = LT B SL n (j + 1) (SL i)) → gI wdC d mX6_leastTravel 7 [some (.inr (.inr 32)), some (.inl f), none, some (.inl (((j + 1 : Nat) : Int) + (-1))), none] h2 Q := fun h2 k2 g8 gj => by
        rw [show ((j + 1 : Nat) : Int) + (-1) = (j : Int) by omega]
        refine ih (by omega) h2 k2 (fun S i a b e g w => ?_)
        by_cases y : S = j + 1
        · rw [y] at e w ⊢; exact gj i g w e
        · exact g8 S i (by omega) b e g w
      refine sg_X6_leastTravel_7 (by omega) ⟨inI_s (by omega) (by omega), fun z => absurd z (by omega), fun _ => ⟨by omega, by rw [e36]; exact mj, fun z => ?_, fun z => low h1 k h8 (fun i a b e => absurd z e)⟩⟩
      have inn : ∀ i : Int, i ≤ n → 0 ≤ i → ∀ h2 : xH, kp [38] h h2 → TB38 h2 n B SL (j + 1) → (∀ k : Nat, (k : Int) < i → (j + 1).testBit k = true → h2 38 (((j + 1) * 12 + k : Nat) : Int) = LT B SL n (j + 1) (SL k)) → gI wdC d mX6_leastTravel 26 [some (.inr (.inr 32)), some (.inl f), none, some (.inl ((j + 1 : Nat) : Int)), some (.inl i)] h2 Q := by
        refine dn ?_ ?_
        · intro _ h2 k2 g8 gi
          refine sg_X6_leastTravel_26 (by omega) ?_
          rw [(kC h2 k2).1]
          exact ⟨⟨inI_s (by omega) (by omega), inI_s (by omega) (by omega)⟩, fun _ => low h2 k2 g8 (fun i a b _ => gi i (by omega) b), fun z => absurd z (by omega)⟩
        · intro i hi ihi i0 h2 k2 g8 gi
          obtain ⟨I, eI⟩ : ∃ I : Nat, i = I := ⟨i.toNat, by omega⟩
          subst eI
          have ihi := ihi (by omega)
          have b01 := bti_01 (j + 1) I
          have sl := hT.2.2.1 I (by omega)
          refine sg_X6_leastTravel_26 (by omega) ?_
          rw [(kC h2 k2).1, x_bitI (by omega) (by omega), show ((I : Int)).toNat = I by omega]
          refine ⟨⟨inI_s (by omega) (by omega), inI_s (by omega) (by omega)⟩, fun z => absurd z (by omega), fun _ => ⟨⟨inI_s (by omega) (by omega), by omega, by omega⟩, inI_s (by omega) (by omega), fun y => ihi h2 k2 g8 (fun w a b => ?_), fun y => C_placeOf ⟨by omega, ?_⟩⟩⟩
          · by_cases x : w = I
            · unfold bti at y
              rw [← x, b, if_pos rfl] at y
              exact absurd rfl y
            · exact gi w (by omega) b
          · rw [((kC h2 k2).2 I (by omega)).2.1]
            refine C_leastFrom (by omega) hT (kC h2 k2) (kM h2 k2) hj (by rw [k2 36 (by decide), ← e36]; exact z) sl g8 ⟨by omega, ihi _ (kp_tr k2 (kp_xu (by decide))) (fun S w a b e g u => ?_) (fun w a b => ?_)⟩
            · rw [xu_cn (by decide)] at e
              rw [xu_ne (by omega)]
              exact g8 S w a b e g u
            · by_cases x : w = I
              · rw [x, xu_eq]
              · rw [xu_ne (by omega)]; exact gi w (by omega) b
      exact inn 0 (by omega) (by omega) h1 k h8 (fun w a => by omega)
  exact sg_X6_leastTravel_0 (by omega) (C_wholeSet hT c (rows (2 ^ n - 1) (by omega) h (kp_rf _ _) (fun S i a b => by omega)))
theorem C_firstBy {S j : Nat} {f r : Int} {Q : Int → xH → Prop} (hd : 2 ≤ d) (hT : TH n B SL) (c : CT h n L SL B) (hM : MK h n B) (hS : S < 2 ^ n) (hm : h 36 S ≠ 0) (hf : 0 ≤ f ∧ f ≤ 11) (h8 : TB38 h n B SL S) (h1 : j < n) (h2 : may B S j = true) (h3 : lg1 B SL n S f j = r) (h4 : ∀ i : Nat, i < j → may B S i = true → lg1 B SL n S f i ≠ r) (hq : Q j h) : cI wdC d mX6_firstBy [.inr (.inr 32), .inl (S : Int), .inl f, .inl r] h Q := by
  have t1 := hT.1
  have p1 := p2_12 t1
  have rb := lg1_b hT hS hf h1
  have lp : ∀ i : Int, i ≤ j → 0 ≤ i → gI wdC d mX6_firstBy 3 [some (.inr (.inr 32)), some (.inl (S : Int)), some (.inl f), some (.inl r), some (.inl i)] h Q := by
    refine dn ?_ ?_
    · intro _
      refine sg_X6_firstBy_3 (by omega) ?_
      rw [c.1]
      refine ⟨⟨inI_s (by omega) (by omega), inI_s (by omega) (by omega)⟩, fun z => absurd z (by omega), fun _ => C_comesNext hT c hS h1 (fun hm2 => ?_) (fun hm2 => by rw [h2] at hm2; cases hm2)⟩
      refine C_travelBy (by omega) hT c hS h1 hf (may_t hm2).1 (hM.2.2 S j hS hm h1 hm2) h8 ⟨⟨inI_s (by omega) (by omega), inI_s (by omega) (by omega)⟩, fun z => absurd h3 z, fun _ => hq⟩
    · intro i hi ih i0
      obtain ⟨I, eI⟩ : ∃ I : Nat, i = I := ⟨i.toNat, by omega⟩
      subst eI
      have ih := ih (by omega)
      refine sg_X6_firstBy_3 (by omega) ?_
      rw [c.1]
      refine ⟨⟨inI_s (by omega) (by omega), inI_s (by omega) (by omega)⟩, fun z => absurd z (by omega), fun _ => C_comesNext hT c hS (by omega) (fun hm2 => ?_) (fun hm2 => ih)⟩
      have lb := lg1_b hT hS hf (i := I) (by omega)
      exact C_travelBy (by omega) hT c hS (by omega) hf (may_t hm2).1 (hM.2.2 S I hS hm (by omega) hm2) h8 ⟨⟨inI_s (by omega) (by omega), inI_s (by omega) (by omega)⟩, fun _ => ih, fun z => absurd z (h4 I (by omega) hm2)⟩
  exact sg_X6_firstBy_0 (lp 0 (by omega) (by omega))
theorem C_pinOfLeast {f i a : Int} {Q : Int → xH → Prop} (hd : 4 ≤ d) (hT : TH n B SL) (c : CT h n L SL B) (hM : MK h n B) (hf : 0 ≤ f ∧ f ≤ 11) (hi : 0 ≤ i ∧ i < n) (ho : Al B SL n L (i.toNat + 1) 0 f (-1) a) (hq : ∀ h', kp [38] h h' → Q a h') : cI wdC d mX6_pinOfLeast [.inr (.inr 32), .inl f, .inl i] h Q := by
  have t1 := hT.1
  have p0 := Nat.two_pow_pos n
  have p1 := p2_12 t1
  refine sg_X6_pinOfLeast_0 (by omega) (C_leastTravel (by omega) hT c hM hf (fun h1 k h8 => ?_))
  have c1 : CT h1 n L SL B := c.keep k (by decide)
  have M1 : MK h1 n B := by unfold MK; rw [k 36 (by decide)]; exact hM
  have lp : ∀ (t : Nat) (x7 : Int) (S l : Nat) (f la : Int), (t : Int) + x7 = i + 1 → 0 ≤ x7 → S < 2 ^ n → h1 36 S ≠ 0 → l < n → 0 ≤ f ∧ f ≤ 11 → (x7 ≠ 0 → la = L l) → (t = 0 → x7 ≠ 0) → Al B SL n L t S f la a → gI wdC d mX6_pinOfLeast 18 [some (.inr (.inr 32)), none, some (.inl i), some (.inl (LT B SL n S f)), some (.inl (S : Int)), some (.inl f), some (.inl (l : Int)), some (.inl x7)] h1 Q := by
    intro t
    induction t with
    | zero =>
      intro x7 S l f la e x0 hS hm hl hf hla h0 ho
      refine sg_X6_pinOfLeast_18 (by omega) ⟨⟨inI_s (by omega) (by omega), inI_s (by omega) (by omega)⟩, fun _ => ⟨by omega, ?_⟩, fun z => absurd z (by omega)⟩
      have ho : a = la := ho
      rw [(c1.2 l hl).1, ← hla (h0 rfl), ← ho]
      exact hq h1 k
    | succ t ih =>
      intro x7 S l f la e x0 hS hm hl hf hla h0 ho
      obtain ⟨j, g1, g2, g3, g4, g5⟩ := ho
      have oT := or_lt' hS g1
      have sl := hT.2.2.1 j g1
      refine sg_X6_pinOfLeast_18 (by omega) ⟨⟨inI_s (by omega) (by omega), inI_s (by omega) (by omega)⟩, fun z => absurd z (by omega), fun _ => C_firstBy (by omega) hT c1 M1 hS hm hf (fun S' i' a b e g w => h8 S' i' (by omega) b e g w) g1 g2 g3 g4 ?_⟩
      rw [xorI_i t1 hS g1, (c1.2 j g1).2.1]
      refine ⟨by omega, inI_s (by omega) (by omega), by omega, by omega, ?_⟩
      have e3 : LT B SL n S f - max (f - SL j) (-(f - SL j)) = LT B SL n (S ||| 2 ^ j) (SL j) := by
        unfold lg1 ab at g3
        omega
      rw [e3]
      exact ih (x7 + 1) (S ||| 2 ^ j) j (SL j) (L j) (by omega) (by omega) oT (M1.2.2 S j hS hm g1 g2) g1 sl (fun _ => rfl) (fun _ => by omega) g5
  exact lp (i.toNat + 1) 0 0 0 f (-1) (by omega) (by omega) p0 M1.2.1 (by omega) hf (fun z => absurd rfl z) (fun z => by omega) ho
end TC
