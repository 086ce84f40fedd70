/-! the class's joins -/
theorem hg_surj (s T : Int → Int) : ∀ n : Nat, ∀ j : Int, 0 ≤ j → j < hg s T n → ∃ t : Nat, t < n ∧ full s T t = true ∧ hg s T t = j := by
  intro n
  induction n with
  | zero => intro j a b; exact absurd b (by unfold hg; omega)
  | succ n ih =>
    intro j a b
    unfold hg at b
    cases hf : full s T n with
    | false =>
      rw [hf, b2i_f] at b
      obtain ⟨t, h1, h2, h3⟩ := ih j a (by omega)
      exact ⟨t, by omega, h2, h3⟩
    | true =>
      rw [hf, b2i_t] at b
      by_cases z : j = hg s T n
      · exact ⟨n, by omega, hf, z.symm⟩
      · obtain ⟨t, h1, h2, h3⟩ := ih j a (by omega)
        exact ⟨t, by omega, h2, h3⟩
theorem og_surj (s T : Int → Int) : ∀ n : Nat, ∀ j : Int, 0 ≤ j → j < n - hg s T n → ∃ t : Nat, t < n ∧ full s T t = false ∧ t - hg s T t = j := by
  intro n
  induction n with
  | zero => intro j a b; exact absurd b (by unfold hg; omega)
  | succ n ih =>
    intro j a b
    unfold hg at b
    cases hf : full s T n with
    | true =>
      rw [hf, b2i_t] at b
      obtain ⟨t, h1, h2, h3⟩ := ih j a (by omega)
      exact ⟨t, by omega, h2, h3⟩
    | false =>
      rw [hf, b2i_f] at b
      by_cases z : j = n - hg s T n
      · exact ⟨n, by omega, hf, z.symm⟩
      · obtain ⟨t, h1, h2, h3⟩ := ih j a (by omega)
        exact ⟨t, by omega, h2, h3⟩
theorem C_sortOut {d : Nat} {h : xH} {s : Int → Int} {Q : xH → Prop} (hd : 3 ≤ d) (hW : WFp s) (hR : RPat h 1 2 3 4 5 s)
    (hq : ∀ h', kp [39, 40, 41] h h' → h' 39 0 = hg s (h 5) (s 2).toNat → h' 39 1 = s 2 - hg s (h 5) (s 2).toNat → (∀ t : Nat, (t : Int) < s 2 → full s (h 5) t = true → h' 40 (hg s (h 5) t) = h 5 t) → (∀ t : Nat, (t : Int) < s 2 → full s (h 5) t = false → h' 41 (t - hg s (h 5) t) = h 5 t) → Q h') : cV wdC d mX1_sortOut [.inr (.inr 39), .inr (.inr 1)] h Q := by
  have w3 := hW.2.2.1
  have q3 := hR.2.2.1
  have lp : ∀ t : Int, t ≤ s 2 → 0 ≤ t → ∀ h1 : xH, kp [39, 40, 41] h h1 → h1 39 0 = hg s (h 5) t.toNat → h1 39 1 = t - hg s (h 5) t.toNat → (∀ u : Nat, (u : Int) < t → full s (h 5) u = true → h1 40 (hg s (h 5) u) = h 5 u) → (∀ u : Nat, (u : Int) < t → full s (h 5) u = false → h1 41 (u - hg s (h 5) u) = h 5 u) → gV wdC d mX1_sortOut 12 [some (.inr (.inr 39)), some (.inr (.inr 1)), some (.inl t)] h1 Q := by
    refine dn ?_ ?_
    · intro _ h1 k g1 g2 g3 g4
      have e6 : h1 1 6 = s 2 := by rw [k 1 (by decide)]; exact q3
      refine sg_X1_sortOut_12 (by omega) ?_
      rw [e6]
      exact ⟨⟨inI_s (by omega) (by omega), inI_s (by omega) (by omega)⟩, fun _ => hq h1 k g1 g2 g3 g4, fun z => absurd z (by omega)⟩
    · intro t ht ih t0 h1 k g1 g2 g3 g4
      have et : ((t.toNat : Nat) : Int) = t := by omega
      have e6 : h1 1 6 = s 2 := by rw [k 1 (by decide)]; exact q3
      have e5 : h1 5 = h 5 := k 5 (by decide)
      have hR1 : RPat h1 1 2 3 4 5 s := hR.congr (k 1 (by decide)) (k 2 (by decide)) (k 3 (by decide)) (k 4 (by decide)) e5
      have hin := hg_in s (h 5) t.toNat
      have ih := ih (by omega)
      rw [show (t + 1).toNat = t.toNat + 1 by omega] at ih
      have hs1 : hg s (h 5) (t.toNat + 1) = hg s (h 5) t.toNat + b2i (full s (h 5) t) := by rw [hg, et]
      refine sg_X1_sortOut_12 (by omega) ?_
      rw [e6]
      refine ⟨⟨inI_s (by omega) (by omega), inI_s (by omega) (by omega)⟩, fun z => absurd z (by omega), fun _ => C_turnsFull (by omega) hW hR1 ⟨t0, ht⟩ ?_⟩
      simp only [e5, g1, g2]
      cases hf : full s (h 5) t with
      | true =>
        rw [hf, b2i_t] at hs1
        refine Or.inl ⟨rfl, by omega, by omega, ih _ (kp_tr k (kp_tr (kp_xu (by decide)) (kp_xu (by decide)))) ?_ ?_ (fun u a b => ?_) (fun u a b => ?_)⟩
        · rw [xu_eq, hs1]
        · rw [xu_ne (by decide), xu_cn (by decide), g2, hs1]; omega
        · rw [xu_cn (by decide)]
          by_cases z : u = t.toNat
          · rw [z, xu_eq, et]
          · have := (hg_lt s (h 5) (a := u) (b := t.toNat) (by omega)).1
            rw [b, b2i_t] at this
            rw [xu_ne (by omega)]
            exact g3 u (by omega) b
        · rw [xu_cn (by decide), xu_cn (by decide)]
          by_cases z : u = t.toNat
          · rw [z, et, hf] at b; cases b
          · exact g4 u (by omega) b
      | false =>
        rw [hf, b2i_f] at hs1
        refine Or.inr ⟨rfl, by omega, by omega, ih _ (kp_tr k (kp_tr (kp_xu (by decide)) (kp_xu (by decide)))) ?_ ?_ (fun u a b => ?_) (fun u a b => ?_)⟩
        · rw [xu_ne (by decide), xu_cn (by decide), g1, hs1]; omega
        · rw [xu_eq, hs1]; omega
        · rw [xu_cn (by decide), xu_cn (by decide)]
          by_cases z : u = t.toNat
          · rw [z, et, hf] at b; cases b
          · exact g3 u (by omega) b
        · rw [xu_cn (by decide)]
          by_cases z : u = t.toNat
          · rw [z, et, xu_eq]
          · have := (hg_lt s (h 5) (a := u) (b := t.toNat) (by omega)).2
            rw [b, b2i_f] at this
            rw [xu_ne (by omega)]
            exact g4 u (by omega) b
  refine sg_X1_sortOut_0 (lp 0 (by omega) (by omega) _ (kp_tr (kp_xu (by decide)) (kp_xu (by decide))) ?_ ?_ (fun u a => by omega) (fun u a => by omega))
  · rw [xu_ne (by decide), xu_eq]; rfl
  · rw [xu_eq]; rfl
/-- what joins are read from -/
def JC (h : xH) (X Y : Int → Int) (H O : Nat) : Prop := h 39 0 = H ∧ h 39 1 = O ∧ h 40 = X ∧ h 41 = Y ∧ H + O ≤ 10 ∧ (∀ j : Int, 0 ≤ j → j < H → 0 ≤ X j ∧ X j < 1600) ∧ (∀ j : Int, 0 ≤ j → j < O → 0 ≤ Y j ∧ Y j < 1600)
theorem C_mayJoin {d : Nat} {X Y : Int → Int} {H O S o : Nat} {i : Int} {h : xH} {T F : xH → Prop} (hd : 1 ≤ d) (hJ : JC h X Y H O) (hi : 0 ≤ i ∧ i < H) (ho : o < O) (hS : S < 2 ^ O) (ht : okj X Y i S o = true → T h) (hf : okj X Y i S o = false → F h) : cB wdC d mX1_mayJoin [.inr (.inr 39), .inl i, .inl (o : Int), .inl (S : Int)] h T F := by
  obtain ⟨j1, j2, j3, j4, j5, j6, j7⟩ := hJ
  have x := j6 i hi.1 hi.2
  have y := j7 o (by omega) (by omega)
  have hS' : S < 2 ^ 10 := Nat.lt_of_lt_of_le hS (two_pow_le (by omega))
  refine sg_X1_mayJoin_0 hd ?_
  rw [x_bitI (by omega) (by omega), show ((o : Int)).toNat = o by omega]
  have b01 := bti_01 S o
  refine ⟨⟨inI_s (by omega) (by omega), by omega⟩, inI_s (by omega) (by omega), fun z => Or.inr ⟨rfl, hf ?_⟩, fun z => ⟨by omega, C_rowOfTurn (by rw [j4]; exact y) ⟨by omega, C_rowOfTurn (by rw [j3]; exact x) ⟨⟨inI_s (by rw [j4]; omega) (by rw [j4]; omega), inI_s (by rw [j3]; omega) (by rw [j3]; omega)⟩, fun y => Or.inr ⟨rfl, hf ?_⟩, fun y => Or.inl ⟨rfl, ht ?_⟩⟩⟩⟩⟩
  · unfold okj
    unfold bti at z
    cases hb : S.testBit o with
    | true => rfl
    | false => rw [hb] at z; exact absurd rfl z
  · rw [j3, j4] at y
    unfold okj
    rw [decide_eq_false (by omega), Bool.and_false]
  · rw [j3, j4] at y
    unfold okj
    unfold bti at z
    cases hb : S.testBit o with
    | true => rw [hb] at z; exact absurd z (by decide)
    | false => rw [decide_eq_true (by omega)]; rfl
theorem C_difference {d : Nat} {X Y : Int → Int} {H O : Nat} {i o : Int} {h : xH} {Q : Int → xH → Prop} (hd : 1 ≤ d) (hJ : JC h X Y H O) (hi : 0 ≤ i ∧ i < H) (ho : 0 ≤ o ∧ o < O) (hq : Q (dfj X Y i o) h) : cI wdC d mX1_difference [.inr (.inr 39), .inl i, .inl o] h Q := by
  obtain ⟨j1, j2, j3, j4, j5, j6, j7⟩ := hJ
  have x := j6 i hi.1 hi.2
  have y := j7 o ho.1 ho.2
  refine sg_X1_difference_0 hd ?_
  refine ⟨by omega, C_slotOfTurn (by rw [j4]; exact y) ⟨by omega, C_slotOfTurn (by rw [j3]; exact x) ?_⟩⟩
  rw [j3, j4]
  exact ⟨inI_s (by omega) (by omega), hq⟩
theorem tix {i S O H : Nat} (hi : i ≤ H) (hO : H + O ≤ 10) (hS : S < 2 ^ O) : xorI ((i : Int) * 2 ^ (Int.toNat (O : Int))) (S : Int) = ((i * 2 ^ O + S : Nat) : Int) ∧ i * 2 ^ O + S < 1024 := by
  have b : i * 2 ^ O + S < 1024 := by
    have h1 : i * 2 ^ O ≤ H * 2 ^ O := Nat.mul_le_mul_right _ hi
    have h2 : (H + 1) * 2 ^ O ≤ 2 ^ H * 2 ^ O := Nat.mul_le_mul_right _ (Nat.lt_two_pow_self)
    have h3 : 2 ^ H * 2 ^ O = 2 ^ (H + O) := (Nat.pow_add 2 H O).symm
    have h4 : 2 ^ (H + O) ≤ 2 ^ 10 := two_pow_le hO
    have h5 : (H + 1) * 2 ^ O = H * 2 ^ O + 2 ^ O := by rw [Nat.add_mul, Nat.one_mul]
    omega
  refine ⟨?_, b⟩
  rw [show (Int.toNat (O : Int)) = O by omega, show ((i : Int) * 2 ^ O) = ((i * 2 ^ O : Nat) : Int) by simp]
  rw [xorI_nat (by omega) (by omega)]
  have h := Nat.two_pow_add_eq_or_of_lt (i := O) (b := S) hS i
  rw [Nat.mul_comm] at h
  rw [h]
theorem C_bestFrom {d : Nat} {X Y : Int → Int} {H O S i : Nat} {h : xH} {Q : Int → xH → Prop} (hJ : JC h X Y H O) (hi : i ≤ H) (hS : S < 2 ^ O) (hq : Q (h 43 ((i * 2 ^ O + S : Nat) : Int)) h) : cI wdC d mX1_bestFrom [.inr (.inr 39), .inl (i : Int), .inl (S : Int)] h Q := by
  obtain ⟨j1, j2, j3, j4, j5, j6, j7⟩ := hJ
  obtain ⟨t1, t2⟩ := tix hi j5 hS
  refine sg_X1_bestFrom_0 ?_
  rw [j2, t1]
  exact ⟨by omega, by omega, hq⟩
