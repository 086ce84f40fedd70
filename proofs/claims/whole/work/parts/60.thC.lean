/-! lawful orders: the class, least travel -/
def TB38 (h : xH) (n : Nat) (B : Nat → Nat) (SL : Int → Int) (c : Nat) (σ : Nat → Nat) (j : Nat) : Prop := ∀ q i : Nat, j < q → q < c → i < n → (σ q).testBit i = true → h 38 ((q * 12 + i : Nat) : Int) = LT B SL n (σ q) (SL i)
theorem or_self (S i : Nat) : (S ||| 2 ^ i).testBit i = true := by rw [or_bit, decide_eq_true rfl, Bool.or_true]
section TC
variable {d n : Nat} {B : Nat → Nat} {L SL : Int → Int} {h : xH} {cn : Nat} {σ : Nat → Nat}
theorem C_travelBy {q i : Nat} {f : Int} {Q : Int → xH → Prop} (hd : 1 ≤ d) (hT : TH n B SL) (c : CT h n L SL B) (hM : MK h n B cn σ) (hq0 : q < cn) (hi : i < n) (hf : 0 ≤ f ∧ f ≤ 11) (hm : may B (σ q) i = true) (h8 : TB38 h n B SL cn σ q) (hq : Q (lg1 B SL n (σ q) f i) h) : cI wdC d mX6_travelBy [.inr (.inr 32), .inl (σ q : Int), .inl f, .inl (i : Int)] h Q := by
  have t1 := hT.1
  have p1 := p2_12 t1
  have hS := (hM.1.2.1 q hq0).2.1
  have oT := or_lt' hS hi
  have sl := hT.2.2.1 i hi
  have c7 := hM.2.1
  obtain ⟨r, r1, r2, r3⟩ := hM.2.2.2.2 q i hq0 hi hm
  have f := (hM.1.2.1 r r2).2.2.1
  rw [r3] at f
  refine sg_X6_travelBy_0 hd ?_
  rw [xorI_i t1 hS hi, (c.2 i hi).2.1, f]
  refine ⟨by omega, by omega, by omega, inI_s (by omega) (by omega), by omega, ?_⟩
  rw [show (r : Int) * 12 + i = ((r * 12 + i : Nat) : Int) by omega, h8 r i r1 r2 hi (by rw [r3]; exact or_self (σ q) i), r3]
  exact hq
theorem mf_in {S : Nat} {f : Int} (hT : TH n B SL) (hS : S < 2 ^ n) (hf : 0 ≤ f ∧ f ≤ 11) (I : Nat) (hI : I ≤ n) : -1 ≤ mf (may B S) (lg1 B SL n S f) I ∧ mf (may B S) (lg1 B SL n S f) I ≤ 143 := by
  rcases mf_spec (P := may B S) (g := lg1 B SL n S f) I (fun i hi hm => (lg1_b hT hS hf (by omega)).1) with ⟨h1, h2⟩ | ⟨h0, i, h1, h2, h3, _⟩
  · omega
  · have := lg1_b hT hS hf (i := i) (by omega)
    omega
theorem C_leastFrom {q : Nat} {f : Int} {Q : Int → xH → Prop} (hd : 2 ≤ d) (hT : TH n B SL) (c : CT h n L SL B) (hM : MK h n B cn σ) (hq0 : q < cn) (hf : 0 ≤ f ∧ f ≤ 11) (h8 : TB38 h n B SL cn σ q) (hq : Q (LT B SL n (σ q) f) h) : cI wdC d mX6_leastFrom [.inr (.inr 32), .inl (σ q : Int), .inl f] h Q := by
  have t1 := hT.1
  have hS := (hM.1.2.1 q hq0).2.1
  have p1 := p2_12 t1
  have lp : ∀ i : Int, i ≤ n → 0 ≤ i → gI wdC d mX6_leastFrom 5 [some (.inr (.inr 32)), some (.inl (σ q : Int)), some (.inl f), some (.inl (mf (may B (σ q)) (lg1 B SL n (σ q) f) i.toNat)), some (.inl i), none] h Q := by
    refine dn ?_ ?_
    · intro _
      have mb := mf_in hT hS hf n (Nat.le_refl _)
      refine sg_X6_leastFrom_5 (by omega) ?_
      rw [c.1, show (Int.toNat (n : Int)) = n by omega]
      refine ⟨⟨inI_s (by omega) (by omega), inI_s (by omega) (by omega)⟩, fun _ => ⟨inI_s (by omega) (by omega), ?_⟩, fun z => absurd z (by omega)⟩
      rw [LT_mx hT hS hf]
      exact hq
    · intro i hi ih i0
      obtain ⟨I, eI⟩ : ∃ I : Nat, i = I := ⟨i.toNat, by omega⟩
      subst eI
      have ih := ih (by omega)
      rw [show ((I : Int) + 1).toNat = I + 1 by omega] at ih
      have mb := mf_in hT hS hf I (by omega)
      refine sg_X6_leastFrom_5 (by omega) ?_
      rw [c.1, show (Int.toNat (I : Int)) = I by omega]
      refine ⟨⟨inI_s (by omega) (by omega), inI_s (by omega) (by omega)⟩, fun z => absurd z (by omega), fun _ => C_comesNext hT c hS (by omega) (fun hm2 => ?_) (fun hm2 => ?_)⟩
      · have lb := lg1_b hT hS hf (i := I) (by omega)
        rw [mf_t hm2] at ih
        refine C_travelBy (by omega) hT c hM hq0 (by omega) hf hm2 h8 ⟨inI_s (by omega) (by omega), fun z => ?_, fun z => ⟨⟨inI_s (by omega) (by omega), inI_s (by omega) (by omega)⟩, fun y => ?_, fun y => ?_⟩⟩
        · rw [if_pos (Or.inl z)] at ih; exact ih
        · rw [if_neg (by omega)] at ih; exact ih
        · rw [if_pos (Or.inr y)] at ih; exact ih
      · rw [mf_f hm2] at ih
        exact ih
  exact sg_X6_leastFrom_0 (lp 0 (by omega) (by omega))
theorem C_leastTravel {f : Int} {Q : Int → xH → Prop} (hd : 3 ≤ d) (hT : TH n B SL) (c : CT h n L SL B) (hM : MK h n B cn σ) (hf : 0 ≤ f ∧ f ≤ 11) (hq : ∀ h', kp [38] h h' → TB38 h' n B SL cn σ 0 → Q (LT B SL n 0 f) h') : cI wdC d mX6_leastTravel [.inr (.inr 32), .inl f] h Q := by
  have t1 := hT.1
  have p1 := p2_12 t1
  obtain ⟨F, ⟨c1, c7⟩, s0, sl, cl⟩ := id hM
  have kC : ∀ h1, kp [38] h h1 → CT h1 n L SL B := fun h1 k => c.keep k (by decide)
  have kM : ∀ h1, kp [38] h h1 → MK h1 n B cn σ := fun h1 k => hM.keep k (by decide)
  have rows : ∀ j : Nat, j < cn → ∀ h1 : xH, kp [38] h h1 → TB38 h1 n B SL cn σ j → gI wdC d mX6_leastTravel 7 [some (.inr (.inr 32)), some (.inl f), some (.inl (j : Int)), none] h1 Q := by
    intro j
    induction j with
    | zero =>
      intro _ h1 k h8
      refine sg_X6_leastTravel_7 (by omega) ⟨inI_s (by omega) (by omega), fun _ => ?_, fun z => absurd z (by omega)⟩
      have e := C_leastFrom (q := 0) (f := f) (Q := Q) (d := d - 1) (by omega) hT (kC h1 k) (kM h1 k) (by omega) hf h8 (by rw [s0]; exact hq h1 k h8)
      rw [s0] at e
      exact e
    | succ j ih =>
      intro hj h1 k h8
      have fj := F.2.1 (j + 1) hj
      have e36 : ∀ h2, kp [38] h h2 → h2 36 ((j + 1 : Nat) : Int) = (σ (j + 1) : Int) := fun h2 k2 => by rw [k2 36 (by decide)]; exact fj.1
      have low : ∀ h2, kp [38] h h2 → TB38 h2 n B SL cn σ (j + 1) → (∀ i : Nat, i < n → (σ (j + 1)).testBit i = true → h2 38 (((j + 1) * 12 + i : Nat) : Int) = LT B SL n (σ (j + 1)) (SL i)) → gI wdC d mX6_leastTravel 7 [some (.inr (.inr 32)), some (.inl f), some (.inl (((j + 1 : Nat) : Int) + (-1))), none] h2 Q := fun h2 k2 g8 gj => by
        rw [show ((j + 1 : Nat) : Int) + (-1) = (j : Int) by omega]
        refine ih (by omega) h2 k2 (fun q i a b e w => ?_)
        by_cases y : q = j + 1
        · rw [y] at w ⊢; exact gj i e w
        · exact g8 q i (by omega) b e w
      refine sg_X6_leastTravel_7 (by omega) ⟨inI_s (by omega) (by omega), fun z => absurd z (by omega), fun _ => ?_⟩
      have inn : ∀ i : Int, i ≤ n → 0 ≤ i → ∀ h2 : xH, kp [38] h h2 → TB38 h2 n B SL cn σ (j + 1) → (∀ k : Nat, (k : Int) < i → (σ (j + 1)).testBit k = true → h2 38 (((j + 1) * 12 + k : Nat) : Int) = LT B SL n (σ (j + 1)) (SL k)) → gI wdC d mX6_leastTravel 13 [some (.inr (.inr 32)), some (.inl f), some (.inl ((j + 1 : Nat) : Int)), some (.inl i)] h2 Q := by
        refine dn ?_ ?_
        · intro _ h2 k2 g8 gi
          refine sg_X6_leastTravel_13 (by omega) ?_
          rw [(kC h2 k2).1]
          exact ⟨⟨inI_s (by omega) (by omega), inI_s (by omega) (by omega)⟩, fun _ => low h2 k2 g8 (fun i a b => gi i (by omega) b), fun z => absurd z (by omega)⟩
        · intro i hi ihi i0 h2 k2 g8 gi
          obtain ⟨I, eI⟩ : ∃ I : Nat, i = I := ⟨i.toNat, by omega⟩
          subst eI
          have ihi := ihi (by omega)
          have b01 := bti_01 (σ (j + 1)) I
          have sl := hT.2.2.1 I (by omega)
          have p2 := fj.2.1
          refine sg_X6_leastTravel_13 (by omega) ?_
          rw [(kC h2 k2).1, e36 h2 k2, x_bitI (by omega) (by omega), show ((I : Int)).toNat = I by omega, ((kC h2 k2).2 I (by omega)).2.1]
          refine ⟨⟨inI_s (by omega) (by omega), inI_s (by omega) (by omega)⟩, fun z => absurd z (by omega), fun _ => ⟨by omega, ⟨inI_s (by omega) (by omega), by omega, by omega⟩, inI_s (by omega) (by omega), fun y => ⟨by omega, by omega, ?_⟩, fun y => ihi h2 k2 g8 (fun w a b => ?_)⟩⟩
          · refine C_leastFrom (by omega) hT (kC h2 k2) (kM h2 k2) hj sl g8 ⟨by omega, ?_⟩
            rw [show ((j + 1 : Nat) : Int) * 12 + (I : Int) = (((j + 1) * 12 + I : Nat) : Int) by omega]
            refine ihi _ (kp_tr k2 (kp_xu (by decide))) (fun q w a b g u => ?_) (fun w a b => ?_)
            · rw [xu_ne (by omega)]
              exact g8 q w a b g u
            · by_cases x : w = I
              · rw [x, xu_eq]
              · rw [xu_ne (by omega)]; exact gi w (by omega) b
          · by_cases x : w = I
            · unfold bti at y
              rw [← x, b, if_pos rfl] at y
              exact absurd y (by decide)
            · exact gi w (by omega) b
      exact inn 0 (by omega) (by omega) h1 k h8 (fun w a => by omega)
  refine sg_X6_leastTravel_0 ?_
  rw [F.1, show (cn : Int) - 1 = ((cn - 1 : Nat) : Int) by omega]
  exact rows (cn - 1) (by omega) h (kp_rf _ _) (fun q i a b => by omega)
theorem C_firstBy {q j : Nat} {f r : Int} {Q : Int → xH → Prop} (hd : 2 ≤ d) (hT : TH n B SL) (c : CT h n L SL B) (hM : MK h n B cn σ) (hq0 : q < cn) (hf : 0 ≤ f ∧ f ≤ 11) (h8 : TB38 h n B SL cn σ q) (h1 : j < n) (h2 : may B (σ q) j = true) (h3 : lg1 B SL n (σ q) f j = r) (h4 : ∀ i : Nat, i < j → may B (σ q) i = true → lg1 B SL n (σ q) f i ≠ r) (hq : Q j h) : cI wdC d mX6_firstBy [.inr (.inr 32), .inl (σ q : Int), .inl f, .inl r] h Q := by
  have t1 := hT.1
  have hS := (hM.1.2.1 q hq0).2.1
  have p1 := p2_12 t1
  have rb := lg1_b hT hS hf h1
  have lp : ∀ i : Int, i ≤ j → 0 ≤ i → gI wdC d mX6_firstBy 3 [some (.inr (.inr 32)), some (.inl (σ q : Int)), some (.inl f), some (.inl r), some (.inl i)] h Q := by
    refine dn ?_ ?_
    · intro _
      refine sg_X6_firstBy_3 (by omega) ?_
      rw [c.1]
      refine ⟨⟨inI_s (by omega) (by omega), inI_s (by omega) (by omega)⟩, fun z => absurd z (by omega), fun _ => C_comesNext hT c hS h1 (fun hm2 => ?_) (fun hm2 => by rw [h2] at hm2; cases hm2)⟩
      refine C_travelBy (by omega) hT c hM hq0 h1 hf hm2 h8 ⟨⟨inI_s (by omega) (by omega), inI_s (by omega) (by omega)⟩, fun z => absurd h3 z, fun _ => hq⟩
    · intro i hi ih i0
      obtain ⟨I, eI⟩ : ∃ I : Nat, i = I := ⟨i.toNat, by omega⟩
      subst eI
      have ih := ih (by omega)
      refine sg_X6_firstBy_3 (by omega) ?_
      rw [c.1]
      refine ⟨⟨inI_s (by omega) (by omega), inI_s (by omega) (by omega)⟩, fun z => absurd z (by omega), fun _ => C_comesNext hT c hS (by omega) (fun hm2 => ?_) (fun hm2 => ih)⟩
      have lb := lg1_b hT hS hf (i := I) (by omega)
      exact C_travelBy (by omega) hT c hM hq0 (by omega) hf hm2 h8 ⟨⟨inI_s (by omega) (by omega), inI_s (by omega) (by omega)⟩, fun _ => ih, fun z => absurd z (h4 I (by omega) hm2)⟩
  exact sg_X6_firstBy_0 (lp 0 (by omega) (by omega))
theorem C_pinOfLeast {f i a : Int} {Q : Int → xH → Prop} (hd : 4 ≤ d) (hT : TH n B SL) (c : CT h n L SL B) (hM : MK h n B cn σ) (hf : 0 ≤ f ∧ f ≤ 11) (hi : 0 ≤ i ∧ i < n) (ho : Al B SL n L (i.toNat + 1) 0 f (-1) a) (hq : ∀ h', kp [38] h h' → Q a h') : cI wdC d mX6_pinOfLeast [.inr (.inr 32), .inl f, .inl i] h Q := by
  have t1 := hT.1
  obtain ⟨F, ⟨c1', c7⟩, s0, sl0, cl⟩ := id hM
  have p1 := p2_12 t1
  refine sg_X6_pinOfLeast_0 (by omega) (C_leastTravel (by omega) hT c hM hf (fun h1 k h8 => ?_))
  have c1 : CT h1 n L SL B := c.keep k (by decide)
  have M1 : MK h1 n B cn σ := hM.keep k (by decide)
  have lp : ∀ (t : Nat) (x7 : Int) (S l : Nat) (f la : Int), (t : Int) + x7 = i + 1 → 0 ≤ x7 → (∃ q, q < cn ∧ σ q = S) → l < n → 0 ≤ f ∧ f ≤ 11 → (x7 ≠ 0 → la = L l) → (t = 0 → x7 ≠ 0) → Al B SL n L t S f la a → gI wdC d mX6_pinOfLeast 18 [some (.inr (.inr 32)), none, some (.inl i), some (.inl (LT B SL n S f)), some (.inl (S : Int)), some (.inl f), some (.inl (l : Int)), some (.inl x7)] h1 Q := by
    intro t
    induction t with
    | zero =>
      intro x7 S l f la e x0 hm hl hf hla h0 ho
      refine sg_X6_pinOfLeast_18 (by omega) ⟨⟨inI_s (by omega) (by omega), inI_s (by omega) (by omega)⟩, fun _ => ⟨by omega, ?_⟩, fun z => absurd z (by omega)⟩
      have ho : a = la := ho
      rw [(c1.2 l hl).1, ← hla (h0 rfl), ← ho]
      exact hq h1 k
    | succ t ih =>
      intro x7 S l f la e x0 hm hl hf hla h0 ho
      obtain ⟨j, g1, g2, g3, g4, g5⟩ := ho
      obtain ⟨q0, q1, q2⟩ := hm
      subst q2
      have hS := (F.2.1 q0 q1).2.1
      have sl := hT.2.2.1 j g1
      refine sg_X6_pinOfLeast_18 (by omega) ⟨⟨inI_s (by omega) (by omega), inI_s (by omega) (by omega)⟩, fun z => absurd z (by omega), fun _ => C_firstBy (by omega) hT c1 M1 q1 hf (fun q' i' a b g w => h8 q' i' (by omega) b g w) g1 g2 g3 g4 ?_⟩
      rw [xorI_i t1 hS g1, (c1.2 j g1).2.1]
      refine ⟨by omega, inI_s (by omega) (by omega), by omega, by omega, ?_⟩
      have e3 : LT B SL n (σ q0) f - max (f - SL j) (-(f - SL j)) = LT B SL n (σ q0 ||| 2 ^ j) (SL j) := by
        unfold lg1 ab at g3
        omega
      rw [e3]
      obtain ⟨r1, r2, r3, r4⟩ := cl q0 j q1 g1 g2
      exact ih (x7 + 1) (σ q0 ||| 2 ^ j) j (SL j) (L j) (by omega) (by omega) ⟨r1, r3, r4⟩ g1 sl (fun _ => rfl) (fun _ => by omega) g5
  exact lp (i.toNat + 1) 0 0 0 f (-1) (by omega) (by omega) ⟨0, by omega, s0⟩ (by omega) hf (fun z => absurd rfl z) (fun z => by omega) ho
end TC
