/-- rows of the table from i0 on -/
def TB (h : xH) (X Y : Int → Int) (H O i0 : Nat) : Prop := ∀ i : Nat, i0 ≤ i → i ≤ H → ∀ S : Nat, S < 2 ^ O → pcs S 12 ≤ i → h 43 ((i * 2 ^ O + S : Nat) : Int) = wv (fm X Y O (H - i) i S)
theorem wv_pre1 (i o df : Int) (c : Cd) : wv (pre1 i o df c) = 1000 - df + wv c := by unfold wv pre1 shf; simp only; omega
theorem wv_pre0 (i : Int) (c : Cd) : wv (pre0 i c) = wv c := by unfold wv pre0 shf; simp only; omega
theorem or_lt {S o O : Nat} (hS : S < 2 ^ O) (ho : o < O) : S ||| 2 ^ o < 2 ^ O := Nat.or_lt_two_pow hS (two_pow_lt ho)
theorem C_worthOf {d : Nat} {X Y : Int → Int} {H O S o i n : Nat} {h : xH} {Q : Int → xH → Prop} (hd : 2 ≤ d) (hJ : JC h X Y H O) (hT : TB h X Y H O (i + 1)) (hn : H - i = n + 1) (ho : o < O) (hS : S < 2 ^ O) (hp : pcs S 12 ≤ i) (hq : Q (wv (pre1 i o (dfj X Y i o) (fm X Y O n (i + 1) (S ||| 2 ^ o)))) h) : cI wdC d mX1_worthOf [.inr (.inr 39), .inl (i : Int), .inl (o : Int), .inl (S : Int)] h Q := by
  have h10 := hJ.2.2.2.2.1
  have hS' : S < 2 ^ 10 := Nat.lt_of_lt_of_le hS (two_pow_le (by omega))
  refine sg_X1_worthOf_0 (by omega) (C_difference (by omega) hJ (by omega) (by omega) ⟨by omega, ?_⟩)
  rw [xorI_p (by omega) (by omega) (by omega), show ((o : Int)).toNat = o by omega, show (i : Int) + 1 = ((i + 1 : Nat) : Int) by omega]
  refine C_bestFrom hJ (by omega) (or_lt hS ho) ?_
  rw [hT (i + 1) (by omega) (by omega) _ (or_lt hS ho) (by have := (pcs_or S o 12).1; omega), show H - (i + 1) = n by omega, show ((i + 1 : Nat) : Int) = (i : Int) + 1 by omega]
  rw [wv_pre1] at hq
  exact hq
theorem C_bestOf {d : Nat} {X Y : Int → Int} {H O S i n : Nat} {h : xH} {Q : Int → xH → Prop} (hd : 3 ≤ d) (hJ : JC h X Y H O) (hT : TB h X Y H O (i + 1)) (hn : H - i = n + 1) (hS : S < 2 ^ O) (hp : pcs S 12 ≤ i) (hq : Q (wv (fm X Y O (n + 1) i S)) h) : cI wdC d mX1_bestOf [.inr (.inr 39), .inl (i : Int), .inl (S : Int)] h Q := by
  have h10 := hJ.2.2.2.2.1
  have j2 := hJ.2.1
  have hS' : S < 2 ^ 10 := Nat.lt_of_lt_of_le hS (two_pow_le (by omega))
  have nb := fm_b (X := X) (Y := Y) (O := O) n ((i : Int) + 1) S
  have fb := fun k => fo_b (X := X) (Y := Y) (i := i) (S := S) (n := n) (by omega) (fm_b (X := X) (Y := Y) (O := O) n ((i : Int) + 1)) k
  have sN := pre0_sm (X := X) (Y := Y) (O := O) (n := n) (by omega) ((i : Int) + 1) i S
  unfold cb at nb
  have wN : -1000 ≤ wv (pre0 i (fm X Y O n (i + 1) S)) ∧ wv (pre0 i (fm X Y O n (i + 1) S)) ≤ 20000 := by
    rw [wv_pre0]; unfold wv; omega
  have wF : ∀ k, wv (fo X Y i S (fm X Y O n (i + 1)) k) ≤ 20000 := fun k => by
    have := fb k; unfold wv; omega
  have lp : ∀ k : Int, k ≤ O → 0 ≤ k → gI wdC d mX1_bestOf 12 [some (.inr (.inr 39)), some (.inl (i : Int)), some (.inl (S : Int)), some (.inl (max (wv (pre0 i (fm X Y O n (i + 1) S))) (wv (fo X Y i S (fm X Y O n (i + 1)) k.toNat)))), some (.inl k)] h Q := by
    refine dn ?_ ?_
    · intro _
      refine sg_X1_bestOf_12 (by omega) ?_
      rw [j2]
      refine ⟨⟨inI_s (by omega) (by omega), inI_s (by omega) (by omega)⟩, fun _ => ?_, fun z => absurd z (by omega)⟩
      rw [fm, wv_imp (fo_sm (by omega) i S O) sN, Int.max_comm] at hq
      exact hq
    · intro k hk ih k0
      obtain ⟨K, eK⟩ : ∃ K : Nat, k = K := ⟨k.toNat, by omega⟩
      subst eK
      have ek : ((K : Int)).toNat = K := by omega
      have ih := ih (by omega)
      rw [show ((K : Int) + 1).toNat = K + 1 by omega] at ih
      have w1 := wF K
      refine sg_X1_bestOf_12 (by omega) ?_
      rw [j2, ek]
      refine ⟨⟨inI_s (by omega) (by omega), inI_s (by omega) (by omega)⟩, fun z => absurd z (by omega), fun _ => C_mayJoin (by omega) hJ (by omega) (by omega) hS (fun b => C_worthOf (by omega) hJ hT hn (by omega) hS hp ?_) (fun b => ?_)⟩
      · have pb := fm_b (X := X) (Y := Y) (O := O) n ((i : Int) + 1) (S ||| 2 ^ K)
        have db := dfj_in X Y i K
        have sP := pre1_sm (X := X) (Y := Y) (O := O) (n := n) (by omega) ((i : Int) + 1) i (S ||| 2 ^ K) K
        unfold cb at pb
        have wP : -1000 ≤ wv (pre1 i K (dfj X Y i K) (fm X Y O n (i + 1) (S ||| 2 ^ K))) ∧ wv (pre1 i K (dfj X Y i K) (fm X Y O n (i + 1) (S ||| 2 ^ K))) ≤ 30000 := by
          rw [wv_pre1]; unfold wv; omega
        refine ⟨⟨inI_s (by omega) (by omega), inI_s (by omega) (by omega)⟩, ?_⟩
        rw [fo, b, if_pos rfl, wv_imp (fo_sm (by omega) i S _) sP] at ih
        rw [Int.max_assoc]
        exact ih
      · rw [fo, b, if_neg (by decide)] at ih
        exact ih
  refine sg_X1_bestOf_0 (by omega) ?_
  rw [show (i : Int) + 1 = ((i + 1 : Nat) : Int) by omega]
  refine C_bestFrom hJ (by omega) hS ?_
  rw [hT (i + 1) (by omega) (by omega) S hS (by omega), show H - (i + 1) = n by omega, show ((i + 1 : Nat) : Int) = (i : Int) + 1 by omega]
  have := lp 0 (by omega) (by omega)
  have e : max (wv (pre0 i (fm X Y O n (i + 1) S))) (wv (fo X Y i S (fm X Y O n (i + 1)) (0 : Int).toNat)) = wv (fm X Y O n (i + 1) S) := by
    rw [wv_pre0]
    rw [wv_pre0] at wN
    have : wv (fo X Y i S (fm X Y O n (i + 1)) (0 : Int).toNat) = -1000000 := rfl
    omega
  rw [e] at this
  exact this
theorem JC.keep {h h' : xH} {X Y : Int → Int} {H O : Nat} (hJ : JC h X Y H O) (e0 : h' 39 0 = h 39 0) (e1 : h' 39 1 = h 39 1) (e2 : h' 40 = h 40) (e3 : h' 41 = h 41) : JC h' X Y H O := by
  unfold JC
  rw [e0, e1, e2, e3]
  exact hJ
theorem ix_ne {i j S T O : Nat} (hS : S < 2 ^ O) (hT : T < 2 ^ O) (h : i < j) : i * 2 ^ O + S < j * 2 ^ O + T := by
  have h1 : (i + 1) * 2 ^ O ≤ j * 2 ^ O := Nat.mul_le_mul_right _ h
  have h2 : (i + 1) * 2 ^ O = i * 2 ^ O + 2 ^ O := by rw [Nat.add_mul, Nat.one_mul]
  omega
theorem C_weigh {d : Nat} {X Y : Int → Int} {H O : Nat} {h : xH} {Q : xH → Prop} (hd : 4 ≤ d) (hJ : JC h X Y H O) (hq : ∀ h', kp [43] h h' → TB h' X Y H O 0 → Q h') : cV wdC d mX1_weigh [.inr (.inr 39)] h Q := by
  have h10 := hJ.2.2.2.2.1
  have pO : 2 ^ O ≤ 2 ^ 10 := two_pow_le (by omega)
  have p0 : 0 < 2 ^ O := Nat.two_pow_pos O
  have kJ : ∀ h1, kp [43] h h1 → JC h1 X Y H O := fun h1 k => hJ.keep (by rw [k 39 (by decide)]) (by rw [k 39 (by decide)]) (k 40 (by decide)) (k 41 (by decide))
  have rows : ∀ j : Nat, j ≤ H → ∀ h1 : xH, kp [43] h h1 → TB h1 X Y H O j → gV wdC d mX1_weigh 44 [some (.inr (.inr 39)), some (.inl ((2 ^ O : Nat) : Int)), some (.inl ((j : Int) - 1)), none] h1 Q := by
    intro j
    induction j with
    | zero =>
      intro _ h1 k hT
      exact sg_X1_weigh_44 ⟨inI_s (by omega) (by omega), fun _ => hq h1 k hT, fun z => absurd z (by omega)⟩
    | succ j ih =>
      intro hj h1 k hT
      rw [show ((j + 1 : Nat) : Int) - 1 = (j : Int) by omega]
      refine sg_X1_weigh_44 ⟨inI_s (by omega) (by omega), fun z => absurd z (by omega), fun _ => ?_⟩
      have inn : ∀ t : Int, t ≤ ((2 ^ O : Nat) : Int) → 0 ≤ t → ∀ h2 : xH, kp [43] h h2 → TB h2 X Y H O (j + 1) → (∀ S : Nat, (S : Int) < t → pcs S 12 ≤ j → h2 43 ((j * 2 ^ O + S : Nat) : Int) = wv (fm X Y O (H - j) j S)) → gV wdC d mX1_weigh 50 [some (.inr (.inr 39)), some (.inl ((2 ^ O : Nat) : Int)), some (.inl (j : Int)), some (.inl t)] h2 Q := by
        refine dn ?_ ?_
        · intro _ h2 k2 hT2 hr
          refine sg_X1_weigh_50 (by omega) ⟨⟨inI_s (by omega) (by omega), inI_s (by omega) (by omega)⟩, fun _ => ?_, fun z => absurd z (by omega)⟩
          rw [show (j : Int) + (-1) = (j : Int) - 1 by omega]
          refine ih (by omega) h2 k2 (fun i a b S hS hp => ?_)
          by_cases z : i = j
          · subst z; exact hr S (by omega) hp
          · exact hT2 i (by omega) b S hS hp
        · intro t ht iht t0 h2 k2 hT2 hr
          obtain ⟨T, eT⟩ : ∃ T : Nat, t = T := ⟨t.toNat, by omega⟩
          subst eT
          have hTl : T < 2 ^ O := by omega
          have J2 := kJ h2 k2
          have j2 := J2.2.1
          obtain ⟨x1, x2⟩ := tix (i := j) (S := T) (O := O) (H := H) (by omega) h10 hTl
          refine sg_X1_weigh_50 (by omega) ⟨⟨inI_s (by omega) (by omega), inI_s (by omega) (by omega)⟩, fun z => absurd z (by omega), fun _ => C_bitCount (by omega) ?_⟩
          have pb : ∀ k, 0 ≤ pcs T k ∧ pcs T k ≤ k := fun k => by
            induction k with
            | zero => exact ⟨Int.le_refl _, Int.le_refl _⟩
            | succ k ih => unfold pcs; have := bti_01 T k; omega
          have pb12 := pb 12
          refine ⟨⟨inI_s (by omega) (by omega), inI_s (by omega) (by omega)⟩, fun z => ?_, fun z => ?_⟩
          · rw [j2, x1]
            refine ⟨by omega, C_bestOf (n := H - j - 1) (by omega) J2 hT2 (by omega) hTl (by omega) ⟨by omega, iht (by omega) _ (kp_tr k2 (kp_xu (by decide))) (fun i a b S hS hp => ?_) (fun S hS hp => ?_)⟩⟩
            · have := ix_ne (i := j) (j := i) hTl hS (by omega)
              rw [xu_ne (by omega)]
              exact hT2 i a b S hS hp
            · by_cases y : S = T
              · rw [y, xu_eq, show H - j - 1 + 1 = H - j by omega]
              · rw [xu_ne (by omega)]
                exact hr S (by omega) hp
          · refine iht (by omega) h2 k2 hT2 (fun S hS hp => ?_)
            by_cases y : S = T
            · rw [y] at hp; omega
            · exact hr S (by omega) hp
      exact inn 0 (by omega) (by omega) h1 k hT (fun S hS => by omega)
  have fst : ∀ t : Int, t ≤ ((2 ^ O : Nat) : Int) → 0 ≤ t → ∀ h1 : xH, kp [43] h h1 → (∀ S : Nat, (S : Int) < t → h1 43 ((H * 2 ^ O + S : Nat) : Int) = 0) → gV wdC d mX1_weigh 9 [some (.inr (.inr 39)), some (.inl ((2 ^ O : Nat) : Int)), some (.inl t), none] h1 Q := by
    refine dn ?_ ?_
    · intro _ h1 k hr
      refine sg_X1_weigh_9 ⟨⟨inI_s (by omega) (by omega), inI_s (by omega) (by omega)⟩, fun _ => ?_, fun z => absurd z (by omega)⟩
      rw [(kJ h1 k).1]
      refine rows H (by omega) h1 k (fun i a b S hS _ => ?_)
      have : i = H := by omega
      subst this
      rw [hr S (by omega), Nat.sub_self]
      rfl
    · intro t ht ih t0 h1 k hr
      obtain ⟨T, eT⟩ : ∃ T : Nat, t = T := ⟨t.toNat, by omega⟩
      subst eT
      have hTl : T < 2 ^ O := by omega
      have J1 := kJ h1 k
      obtain ⟨x1, x2⟩ := tix (i := H) (S := T) (O := O) (H := H) (by omega) h10 hTl
      refine sg_X1_weigh_9 ?_
      rw [J1.1, J1.2.1, x1]
      refine ⟨⟨inI_s (by omega) (by omega), inI_s (by omega) (by omega)⟩, fun z => absurd z (by omega), fun _ => ⟨by omega, by omega, ih (by omega) _ (kp_tr k (kp_xu (by decide))) (fun S hS => ?_)⟩⟩
      by_cases y : S = T
      · rw [y, xu_eq]
      · rw [xu_ne (by omega)]
        exact hr S (by omega)
  refine sg_X1_weigh_0 ?_
  rw [hJ.2.1]
  refine ⟨by omega, ?_⟩
  have := fst 0 (by omega) (by omega) h (kp_rf _ _) (fun S hS => by omega)
  rw [show (1 * 2 ^ (Int.toNat (O : Int)) : Int) = ((2 ^ O : Nat) : Int) by rw [Int.one_mul, show (Int.toNat (O : Int)) = O by omega]; simp]
  exact this
