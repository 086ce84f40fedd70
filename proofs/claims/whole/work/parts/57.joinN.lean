/-! API: pairs, hang -/
theorem fo_congr {X Y X' Y' : Int → Int} {i : Int} {S : Nat} {f f' : Nat → Cd} (hx : X i = X' i) (hf : ∀ S', f S' = f' S') : ∀ k : Nat, (∀ o : Nat, o < k → Y o = Y' o) → fo X Y i S f k = fo X' Y' i S f' k := by
  intro k
  induction k with
  | zero => intro _; rfl
  | succ k ih =>
    intro hy
    have e1 : okj X Y i S k = okj X' Y' i S k := by unfold okj; rw [hx, hy k (by omega)]
    have e2 : dfj X Y i k = dfj X' Y' i k := by unfold dfj; rw [hx, hy k (by omega)]
    rw [fo, fo, e1, e2, hf, ih (fun o ho => hy o (by omega))]
theorem fm_congr {X Y X' Y' : Int → Int} {H O : Nat} (hx : ∀ j : Int, 0 ≤ j → j < H → X j = X' j) (hy : ∀ o : Nat, o < O → Y o = Y' o) : ∀ (n i S : Nat), n + i = H → fm X Y O n i S = fm X' Y' O n i S := by
  intro n
  induction n with
  | zero => intro i S _; rfl
  | succ n ih =>
    intro i S hi
    have e : ∀ S', fm X Y O n ((i : Int) + 1) S' = fm X' Y' O n ((i : Int) + 1) S' := fun S' => by
      have := ih (i + 1) S' (by omega)
      rw [show ((i + 1 : Nat) : Int) = (i : Int) + 1 by omega] at this
      exact this
    rw [fm, fm, e, fo_congr (hx i (by omega) (by omega)) e O hy]
theorem fm_val {X Y : Int → Int} {O : Nat} : ∀ (n : Nat) (i : Int) (S : Nat) (j : Int), n ≤ 11 → i ≤ j → j < i + n → -1 ≤ (fm X Y O n i S).2.2 j ∧ (fm X Y O n i S).2.2 j < O := by
  intro n
  induction n with
  | zero => intro i S j _ a b; omega
  | succ n ih =>
    intro i S j hn a b
    rcases fm_first (X := X) (Y := Y) (O := O) (n := n) (by omega) i S with ⟨o, h1, _, _, _, h5⟩ | ⟨_, h2⟩
    · rw [h5]
      show -1 ≤ up1 (fm X Y O n (i + 1) (S ||| 2 ^ o)).2.2 i o j ∧ up1 (fm X Y O n (i + 1) (S ||| 2 ^ o)).2.2 i o j < O
      by_cases z : j = i
      · rw [z, up1_eq]; omega
      · rw [up1_ne z]; exact ih (i + 1) _ j (by omega) (by omega) (by omega)
    · rw [h2]
      show -1 ≤ up1 (fm X Y O n (i + 1) S).2.2 i (-1) j ∧ up1 (fm X Y O n (i + 1) S).2.2 i (-1) j < O
      by_cases z : j = i
      · rw [z, up1_eq]; omega
      · rw [up1_ne z]; exact ih (i + 1) _ j (by omega) (by omega) (by omega)
theorem jx_ex (s T : Int → Int) : ∀ n : Nat, ∃ X Y : Int → Int, (∀ t : Nat, t < n → full s T t = true → X (hg s T t) = T t) ∧ (∀ t : Nat, t < n → full s T t = false → Y (t - hg s T t) = T t) := by
  intro n
  induction n with
  | zero => exact ⟨fun _ => 0, fun _ => 0, fun t a => by omega, fun t a => by omega⟩
  | succ n ih =>
    obtain ⟨X, Y, gX, gY⟩ := ih
    cases hf : full s T n with
    | true =>
      refine ⟨up1 X (hg s T n) (T n), Y, fun t a b => ?_, fun t a b => ?_⟩
      · by_cases z : t = n
        · rw [z, up1_eq]
        · have := (hg_lt s T (a := t) (b := n) (by omega)).1
          rw [b, b2i_t] at this
          rw [up1_ne (by omega)]
          exact gX t (by omega) b
      · by_cases z : t = n
        · rw [z, hf] at b; cases b
        · exact gY t (by omega) b
    | false =>
      refine ⟨X, up1 Y (n - hg s T n) (T n), fun t a b => ?_, fun t a b => ?_⟩
      · by_cases z : t = n
        · rw [z, hf] at b; cases b
        · exact gX t (by omega) b
      · by_cases z : t = n
        · rw [z, up1_eq]
        · have := (hg_lt s T (a := t) (b := n) (by omega)).2
          rw [b, b2i_f] at this
          rw [up1_ne (by omega)]
          exact gY t (by omega) b
theorem C_join2 {d : Nat} {h : xH} {s X Y : Int → Int} {H O : Nat} {Q : xH → Prop} (hd : 5 ≤ d) (hW : WFp s) (hR : RPat h 1 2 3 4 5 s) (eH : (H : Int) = hg s (h 5) (s 2).toNat) (eO : (O : Int) = s 2 - hg s (h 5) (s 2).toNat)
    (gX : ∀ t : Nat, t < (s 2).toNat → full s (h 5) t = true → X (hg s (h 5) t) = h 5 t) (gY : ∀ t : Nat, t < (s 2).toNat → full s (h 5) t = false → Y (t - hg s (h 5) t) = h 5 t)
    (hq : ∀ h', kp [39, 40, 41, 42, 43] h h' → h' 39 0 = H → (∀ j, 0 ≤ j → j < (H : Int) → h' 40 j = X j) → (∀ j, 0 ≤ j → j < (O : Int) → h' 41 j = Y j) → h' 39 2 = (fm X Y O H 0 0).1 → h' 39 3 = (fm X Y O H 0 0).2.1 → (∀ j, 0 ≤ j → j < (H : Int) → h' 42 j = (fm X Y O H 0 0).2.2 j) → Q h') : cV wdC d mX1_join [.inr (.inr 39), .inr (.inr 1)] h Q := by
  have w3 := hW.2.2.1
  refine C_join hd hW hR (fun h' X' Y' H' O' k J e1 e2 x1 y1 f2 f3 f4 => ?_)
  have z1 : H' = H := by omega
  subst z1
  have z2 : O' = O := by omega
  subst z2
  have hx : ∀ j : Int, 0 ≤ j → j < H' → X' j = X j := fun j a b => by
    obtain ⟨t, t1, t2, t3⟩ := hg_surj s (h 5) (s 2).toNat j a (by omega)
    rw [← t3, x1 t (by omega) t2, gX t t1 t2]
  have hy : ∀ j : Int, 0 ≤ j → j < O' → Y' j = Y j := fun j a b => by
    obtain ⟨t, t1, t2, t3⟩ := og_surj s (h 5) (s 2).toNat j a (by omega)
    rw [← t3, y1 t (by omega) t2, gY t t1 t2]
  have e := fm_congr (X := X') (Y := Y') (X' := X) (Y' := Y) (H := H') (O := O') hx (fun o ho => hy o (by omega) (by omega)) H' 0 0 (by omega)
  rw [show ((0 : Nat) : Int) = 0 from rfl] at e
  rw [e] at f2 f3
  exact hq h' k J.1 (fun j a b => by rw [J.2.2.1]; exact hx j a b) (fun j a b => by rw [J.2.2.2.1]; exact hy j a b) f2 f3 (fun j a b => by rw [f4 j a b, e])
theorem M_findsPairs {d : Nat} {m : xH} {T X Y : Int → Int} {H O : Nat} {Q : xH → Prop} (hd : 12 ≤ d) (hW : WFp (m 1)) (hT : TS T (m 1)) (eH : (H : Int) = hg (m 1) T (m 1 2).toNat) (eO : (O : Int) = m 1 2 - hg (m 1) T (m 1 2).toNat)
    (gX : ∀ t : Nat, t < (m 1 2).toNat → full (m 1) T t = true → X (hg (m 1) T t) = T t) (gY : ∀ t : Nat, t < (m 1 2).toNat → full (m 1) T t = false → Y (t - hg (m 1) T t) = T t)
    (hq : ∀ m', kp [0, 10, 11, 12, 13] m m' → m' 0 3 = m 0 3 → m' 0 22 = m 0 22 → m' 0 23 = m 0 23 → MJ m' X Y H O → m' 0 17 = (fm X Y O H 0 0).1 → m' 0 18 = (fm X Y O H 0 0).2.1 → (∀ j, 0 ≤ j → j < (H : Int) → m' 13 j = (fm X Y O H 0 0).2.2 j) → Q m') : cV wdM d mX8_findsPairs [.inr (.inr 0)] m Q := by
  have w3 := hW.2.2.1
  have t1 := hT.1
  have fb := fm_b (X := X) (Y := Y) (O := O) H 0 0
  unfold cb at fb
  refine sg_X8_findsPairs_0 (by omega) (M_findsTurns (by omega) hW hT (fun h1 k e0 e15 e16 g1 g2 => ?_))
  have J : MJ (xu (xu h1 0 17 (-1)) 0 18 0) X Y H O := by
    refine ⟨?_, ?_, by omega, fun j a b => ?_, fun j a b => ?_⟩
    · rw [xu_ne (by decide), xu_ne (by decide), e15, eH]
    · rw [xu_ne (by decide), xu_ne (by decide), e16, eO]
    · obtain ⟨t, t4, t5, t6⟩ := hg_surj (m 1) T (m 1 2).toNat j a (by omega)
      rw [← t6, xu_cn (by decide), xu_cn (by decide), g1 t (by omega) t5, gX t t4 t5]
      have := t1 t (by omega) (by omega)
      exact ⟨rfl, this.1, this.2.1⟩
    · obtain ⟨t, t4, t5, t6⟩ := og_surj (m 1) T (m 1 2).toNat j a (by omega)
      rw [← t6, xu_cn (by decide), xu_cn (by decide), g2 t (by omega) t5, gY t t4 t5]
      have := t1 t (by omega) (by omega)
      exact ⟨rfl, this.1, this.2.1⟩
  refine M_joins (X := X) (Y := Y) (H := H) (O := O) H (d - 1) 0 0 0 0 _ (-1, 0, fun j => h1 13 j) _ (by omega) (by omega) (Nat.two_pow_pos O) (by omega) (by omega) J ⟨?_, ?_, fun j a b => ?_⟩ (show sbJ (-1, 0, fun j => h1 13 j) from ⟨⟨show (-1 : Int) ≤ -1 by omega, show (-1 : Int) ≤ 10 by omega⟩, show (0 : Int) ≤ 0 by omega, show (0 : Int) ≤ 150 by omega⟩) (fun m' k2 g0 g12 st => ?_)
  · rw [xu_ne (by decide), xu_eq]
  · rw [xu_eq]
  · rw [xu_cn (by decide), xu_cn (by decide)]
  · have eo : ∀ i, i ≠ 15 → i ≠ 16 → i ≠ 17 → i ≠ 18 → m' 0 i = m 0 i := fun i a b c e => by
      rw [g0 i c e, xu_ne e, xu_ne c, e0 i a b]
    have J' : MJ m' X Y H O := by
      obtain ⟨z1, z2, z3, z4, z5⟩ := J
      have k3 : kp [0, 12, 13] (xu (xu h1 0 17 (-1)) 0 18 0) m' := k2
      exact MJ.keep ⟨z1, z2, z3, z4, z5⟩ (g0 15 (by decide) (by decide)) (g0 16 (by decide) (by decide)) (k3 10 (by decide)) (k3 11 (by decide))
    have hb : bt (-1, 0, fun j => h1 13 j) (shf 0 0 (wth (xu (xu h1 0 17 (-1)) 0 18 0 12) ((0 : Nat) : Int)) (fm X Y O H ((0 : Nat) : Int) 0)) = true := by
      rw [bt_iff]
      refine Or.inl ?_
      show (-1 : Int) < 0 + (fm X Y O H 0 0).1
      omega
    rw [imp_t hb] at st
    obtain ⟨s1, s2, s3⟩ := st
    have s1 : m' 0 17 = 0 + (fm X Y O H 0 0).1 := s1
    have s2 : m' 0 18 = 0 + (fm X Y O H 0 0).2.1 := s2
    refine hq m' (kp_tr (kp_mono k (by decide)) (kp_tr (kp_tr (kp_xu (by decide)) (kp_xu (by decide))) (kp_mono k2 (by decide)))) (eo 3 (by decide) (by decide) (by decide) (by decide)) (eo 22 (by decide) (by decide) (by decide) (by decide)) (eo 23 (by decide) (by decide) (by decide) (by decide)) J' (by omega) (by omega) (fun j a b => ?_)
    have := s3 j a b
    rw [this]
    show (if j < ((0 : Nat) : Int) then _ else (fm X Y O H 0 0).2.2 j) = _
    rw [if_neg (by omega)]
theorem pcs_in (S : Nat) : ∀ k : Nat, 0 ≤ pcs S k ∧ pcs S k ≤ k := by
  intro k
  induction k with
  | zero => exact ⟨Int.le_refl _, Int.le_refl _⟩
  | succ k ih => unfold pcs; have := bti_01 S k; omega
theorem pcs_hi {f w : Nat} (hf : f < 2 ^ w) : ∀ k : Nat, pcs f (w + k) = pcs f w := by
  intro k
  induction k with
  | zero => rfl
  | succ k ih =>
    have e : pcs f (w + (k + 1)) = pcs f (w + k) + bti f (w + k) := rfl
    have : bti f (w + k) = 0 := by
      unfold bti
      rw [Nat.testBit_lt_two_pow (Nat.lt_of_lt_of_le hf (two_pow_le (by omega)))]
      rfl
    omega
theorem Q_pairs (k : Int) (hk : inI k) {h m : xH} (hR : Rel h m) : QI mX7_pairs mX8_pairs [.inl k] h m := by
  obtain ⟨⟨i1, i2, i3, i4, i5, i6, i7, i8, i9⟩, r1, r2, r3, r4, r5, r6, r7⟩ := id hR
  obtain ⟨w1, w2, w3, w4, w5, w6, w7, w8⟩ := id i1.1
  obtain ⟨q1, q2, q3, q4, ⟨f, q5, qf, qb⟩, q6, q7, q8⟩ := id r1
  have hh := hg_in (m 1) (h 5) (m 1 2).toNat
  obtain ⟨X, Y, gX, gY⟩ := jx_ex (m 1) (h 5) (m 1 2).toNat
  obtain ⟨H, eH⟩ : ∃ H : Nat, (H : Int) = hg (m 1) (h 5) (m 1 2).toNat := ⟨(hg (m 1) (h 5) (m 1 2).toNat).toNat, by omega⟩
  obtain ⟨O, eO⟩ : ∃ O : Nat, (O : Int) = m 1 2 - hg (m 1) (h 5) (m 1 2).toNat := ⟨(m 1 2 - hg (m 1) (h 5) (m 1 2).toNat).toNat, by omega⟩
  have fb := fm_b (X := X) (Y := Y) (O := O) H 0 0
  unfold cb at fb
  have pin := pcs_in f 12
  have f12 : f < 4096 := Nat.lt_of_lt_of_le qf (two_pow_le (n := 12) (by omega))
  have phi := pcs_hi qf (12 - (m 1 0).toNat)
  rw [show (m 1 0).toNat + (12 - (m 1 0).toNat) = 12 by omega] at phi
  have lf : ∀ v, inI v → (k = 0 → v = pcs f 12 + H - (fm X Y O H 0 0).1) → (k = 1 → v = (fm X Y O H 0 0).1) → (k = 2 → v = (fm X Y O H 0 0).2.1) → (k < 0 ∨ 2 < k → v = -1) → QI mX7_pairs mX8_pairs [.inl k] h m := by
    intro v iv a0 a1 a2 a9
    refine ⟨v, iv, ?_, ?_⟩
    · refine sg_X7_pairs_0 (by omega) (C_join2 (by omega) i1.1 r1 eH eO gX gY (fun h1 k1 e0 ex ey f2 f3 f4 => ?_))
      have kk : keepC h h1 := ⟨kp_mono k1 (by decide), by rw [k1 44 (by decide)]⟩
      rw [show h1 1 1 = (f : Int) by rw [k1 1 (by decide)]; exact q5, f2, f3]
      exact ⟨hk, fun z => C_bitCount f12 ⟨by rw [e0, f2]; exact (a0 z).symm, kk⟩, fun z => ⟨(a1 z).symm, kk⟩, fun z => ⟨(a2 z).symm, kk⟩, fun z => ⟨(a9 z).symm, kk⟩⟩
    · refine sg_X8_pairs_0 (by omega) ⟨hk, M_isIn (inL_I hk) (by unfold inL; omega) (by unfold inL; omega) (fun zk => M_findsPairs (by omega) i1.1 (TS_of i1.1 r1) eH eO gX gY (fun m' k1 k2 k3 k4 J f2 f3 f4 => ?_)) (fun z => ⟨(a9 (by omega)).symm, keepM_rf m⟩)⟩
      have kk : keepM m m' := ⟨kp_mono k1 (by decide), k2, k3, k4⟩
      have em : m' 1 = m 1 := k1 1 (by decide)
      rw [f2, f3, J.1]
      refine ⟨hk, fun z => ?_, fun z => ⟨hk, fun z1 => ⟨(a2 (by omega)).symm, kk⟩, fun z1 => ⟨(a1 (by omega)).symm, kk⟩⟩⟩
      have lp : ∀ t : Int, t ≤ m 1 0 → 0 ≤ t → gI wdM 30 mX8_pairs 51 [some (.inr (.inr 0)), none, some (.inl ((H : Int) - (fm X Y O H 0 0).1 + pcs f t.toNat)), some (.inl t)] m' (fun n m' => n = v ∧ keepM m m') := by
        refine dn ?_ ?_
        · intro _
          refine sg_X8_pairs_51 ?_
          rw [em]
          exact ⟨⟨inI_s (by omega) (by omega), inI_s (by omega) (by omega)⟩, fun _ => ⟨by have := a0 (by omega); omega, kk⟩, fun z => absurd z (by omega)⟩
        · intro t ht ih t0
          have ih := ih (by omega)
          have qt := qb t.toNat (by omega)
          rw [show ((t.toNat : Nat) : Int) = t by omega] at qt
          rw [show (t + 1).toNat = t.toNat + 1 by omega, pcs, ← qt, ← Int.add_assoc] at ih
          refine sg_X8_pairs_51 ?_
          rw [em]
          exact ⟨⟨inI_s (by omega) (by omega), inI_s (by omega) (by omega)⟩, fun z => absurd z (by omega), fun _ => ⟨by omega, ih⟩⟩
      have := lp 0 (by omega) (by omega)
      rw [show (0 : Int).toNat = 0 from rfl, pcs, Int.add_zero] at this
      exact this
  rcases (show k = 0 ∨ k = 1 ∨ k = 2 ∨ (k < 0 ∨ 2 < k) by omega) with z | z | z | z
  · exact lf _ (inI_s (by omega) (by omega)) (fun _ => rfl) (by omega) (by omega) (by omega)
  · exact lf _ (inI_s (by omega) (by omega)) (by omega) (fun _ => rfl) (by omega) (by omega)
  · exact lf _ (inI_s (by omega) (by omega)) (by omega) (by omega) (fun _ => rfl) (by omega)
  · exact lf (-1) (inI_s (by omega) (by omega)) (by omega) (by omega) (by omega) (fun _ => rfl)
theorem C_slotAndRow {d : Nat} {x : Int} {h : xH} {Q : Int → xH → Prop} (hd : 1 ≤ d) (hx : 0 ≤ x ∧ x < 1600) (hq : Q (cvT x) h) : cI wdC d mX7_slotAndRow [.inl x] h Q :=
  sg_X7_slotAndRow_0 hd (C_slotOfTurn hx (C_rowOfTurn hx hq))
theorem Q_hang (i k : Int) (hi : inI i) (hk : inI k) {h m : xH} (hR : Rel h m) : QI mX7_hang mX8_hang [.inl i, .inl k] h m := by
  obtain ⟨⟨i1, i2, i3, i4, i5, i6, i7, i8, i9⟩, r1, r2, r3, r4, r5, r6, r7⟩ := id hR
  obtain ⟨w1, w2, w3, w4, w5, w6, w7, w8⟩ := id i1.1
  have q6 := r1.2.2.2.2.2.1
  have hh := hg_in (m 1) (h 5) (m 1 2).toNat
  obtain ⟨X, Y, gX, gY⟩ := jx_ex (m 1) (h 5) (m 1 2).toNat
  obtain ⟨H, eH⟩ : ∃ H : Nat, (H : Int) = hg (m 1) (h 5) (m 1 2).toNat := ⟨(hg (m 1) (h 5) (m 1 2).toNat).toNat, by omega⟩
  obtain ⟨O, eO⟩ : ∃ O : Nat, (O : Int) = m 1 2 - hg (m 1) (h 5) (m 1 2).toNat := ⟨(m 1 2 - hg (m 1) (h 5) (m 1 2).toNat).toNat, by omega⟩
  have xb : ∀ j : Int, 0 ≤ j → j < H → 0 ≤ X j ∧ X j < 1600 := fun j a b => by
    obtain ⟨t, t4, t5, t6⟩ := hg_surj (m 1) (h 5) (m 1 2).toNat j a (by omega)
    have := q6 t (by omega) (by omega)
    rw [← t6, gX t t4 t5]; omega
  have yb : ∀ j : Int, 0 ≤ j → j < O → 0 ≤ Y j ∧ Y j < 1600 := fun j a b => by
    obtain ⟨t, t4, t5, t6⟩ := og_surj (m 1) (h 5) (m 1 2).toNat j a (by omega)
    have := q6 t (by omega) (by omega)
    rw [← t6, gY t t4 t5]; omega
  have lf : ∀ v, inI v → (¬ ((0 ≤ i ∧ i < H) ∧ 0 ≤ k ∧ k ≤ 1) → v = -1) → (0 ≤ i → i < H → k = 0 → v = cvT (X i)) → (0 ≤ i → i < H → k = 1 → (fm X Y O H 0 0).2.2 i < 0 → v = -5) → (0 ≤ i → i < H → k = 1 → 0 ≤ (fm X Y O H 0 0).2.2 i → v = cvT (Y ((fm X Y O H 0 0).2.2 i))) → QI mX7_hang mX8_hang [.inl i, .inl k] h m := by
    intro v iv a0 a1 a2 a3
    refine ⟨v, iv, ?_, ?_⟩
    · refine sg_X7_hang_0 (by omega) (C_join2 (by omega) i1.1 r1 eH eO gX gY (fun h1 k1 e0 ex ey f2 f3 f4 => ?_))
      have kk : keepC h h1 := ⟨kp_mono k1 (by decide), by rw [k1 44 (by decide)]⟩
      rw [e0]
      refine ⟨hi, fun z => ⟨(a0 (by omega)).symm, kk⟩, fun c0 => ⟨⟨hi, inI_s (by omega) (by omega)⟩, fun z => ⟨(a0 (by omega)).symm, kk⟩, fun c1 => ⟨hk, fun z => ⟨(a0 (by omega)).symm, kk⟩, fun c2 => ⟨hk, fun c3 => ⟨hk, fun c4 => ?_, fun c4 => ?_⟩, fun z => ⟨(a0 (by omega)).symm, kk⟩⟩⟩⟩⟩
      · have vb := fm_val (X := X) (Y := Y) (O := O) H 0 0 i (by omega) (by omega) (by omega)
        rw [f4 i c0 c1]
        refine ⟨by omega, inI_s (by omega) (by omega), fun c5 => ⟨by omega, ?_⟩, fun c5 => ⟨(a2 c0 c1 (by omega) c5).symm, kk⟩⟩
        rw [ey _ c5 (by omega)]
        exact C_slotAndRow (by omega) (yb _ c5 (by omega)) ⟨(a3 c0 c1 (by omega) c5).symm, kk⟩
      · rw [ex i c0 c1]
        exact ⟨by omega, C_slotAndRow (by omega) (xb i c0 c1) ⟨(a1 c0 c1 c4).symm, kk⟩⟩
    · refine sg_X8_hang_0 (by omega) (M_findsPairs (by omega) i1.1 (TS_of i1.1 r1) eH eO gX gY (fun m' k1 k2 k3 k4 J f2 f3 f4 => ?_))
      have kk : keepM m m' := ⟨kp_mono k1 (by decide), k2, k3, k4⟩
      rw [J.1]
      refine ⟨hi, inI_s (by omega) (by omega), M_isIn (inL_I hi) (by unfold inL; omega) (by unfold inL; omega) (fun c1 => ⟨hk, M_isIn (inL_I hk) (by unfold inL; omega) (by unfold inL; omega) (fun c2 => ⟨hk, fun c4 => ?_, fun c4 => ?_⟩) (fun z => ⟨(a0 (by omega)).symm, kk⟩)⟩) (fun z => ⟨(a0 (by omega)).symm, kk⟩)⟩
      · have vb := fm_val (X := X) (Y := Y) (O := O) H 0 0 i (by omega) (by omega) (by omega)
        rw [f4 i (by omega) (by omega)]
        refine ⟨by omega, inI_s (by omega) (by omega), fun c5 => ⟨by omega, by omega, ?_, kk⟩, fun c5 => ⟨(a2 (by omega) (by omega) (by omega) c5).symm, kk⟩⟩
        rw [(J.2.2.2.2 _ c5 (by omega)).1]
        exact (a3 (by omega) (by omega) (by omega) c5).symm
      · refine ⟨by omega, ?_, kk⟩
        rw [(J.2.2.2.1 i (by omega) (by omega)).1]
        exact (a1 (by omega) (by omega) c4).symm
  by_cases c : (0 ≤ i ∧ i < H) ∧ 0 ≤ k ∧ k ≤ 1
  · have vb := fm_val (X := X) (Y := Y) (O := O) H 0 0 i (by omega) (by omega) (by omega)
    by_cases c1 : k = 0
    · have := cvT_parts (xb i c.1.1 c.1.2)
      exact lf _ (inI_s (by omega) (by omega)) (fun z => absurd c z) (fun _ _ _ => rfl) (by omega) (by omega)
    · by_cases c2 : 0 ≤ (fm X Y O H 0 0).2.2 i
      · have := cvT_parts (yb _ c2 (by omega))
        exact lf _ (inI_s (by omega) (by omega)) (fun z => absurd c z) (by omega) (by omega) (fun _ _ _ _ => rfl)
      · exact lf (-5) (inI_s (by omega) (by omega)) (fun z => absurd c z) (by omega) (fun _ _ _ _ => rfl) (by omega)
  · exact lf (-1) (inI_s (by omega) (by omega)) (fun _ => rfl) (by omega) (by omega) (by omega)
