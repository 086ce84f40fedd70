/-! API: the pricking (1) -/
theorem Rel.patU {h m h' m' : xH} (hR : Rel h m) (kC : kp [1, 2, 3, 4, 5, 6, 7, 8, 9, 10, 21, 22, 23, 24, 25, 26, 27, 28, 29, 30, 31, 32, 33, 34, 35, 36, 37, 38, 39, 40, 41, 42, 43, 46, 47, 48, 49] h h') (kM : kp [0, 1, 3, 4, 5, 6, 7, 8, 9, 10, 11, 12, 13, 16, 18] m m') (e3 : m' 0 3 = m 0 3) (e22 : m' 0 22 = m 0 22) (e23 : m' 0 23 = m 0 23)
    (hW : WF (m' 1)) (hP : RPat h' 1 2 3 4 5 (m' 1)) (hB : RBen h' 6 7 8 9 10 (m' 1)) : Rel h' m' := by
  obtain ⟨⟨i1, i2, i3, i4, i5, i6, i7, i8, i9⟩, r1, r2, r3, r4, r5, r6, r7⟩ := hR
  refine ⟨?_, ?_⟩
  · unfold InvM
    rw [e3, e22, e23, kM 2 (by decide), kM 14 (by decide), kM 15 (by decide), kM 17 (by decide), kM 19 (by decide), kM 20 (by decide)]
    exact ⟨hW, i2, i3, i4, i5, i6, i7, i8, i9⟩
  · unfold RelC
    rw [e3, e22, e23, kM 2 (by decide), kM 14 (by decide), kM 15 (by decide), kM 17 (by decide), kM 19 (by decide), kC 0 (by decide), kC 44 (by decide), kC 45 (by decide), kC 51 (by decide), kC 52 (by decide), kC 53 (by decide)]
    refine ⟨hP, hB, ⟨r3.1, fun z => ?_⟩, r4, r5, r6, r7.congr (kC 54 (by decide))⟩
    obtain ⟨a, b⟩ := r3.2 z
    exact ⟨a.congr (kC 11 (by decide)) (kC 12 (by decide)) (kC 13 (by decide)) (kC 14 (by decide)) (kC 15 (by decide)), b.congr (kC 16 (by decide)) (kC 17 (by decide)) (kC 18 (by decide)) (kC 19 (by decide)) (kC 20 (by decide))⟩
theorem cnt_0 {s : Int → Int} : ∀ n : Nat, (∀ p : Nat, p < n → s (95 + p) = 0 ∨ s (95 + p) = 1) → 0 ≤ cnt s n ∧ (cnt s n = 0 → ∀ p : Nat, p < n → s (95 + p) = 0) := by
  intro n
  induction n with
  | zero => intro _; exact ⟨by simp [cnt], fun _ p hp => by omega⟩
  | succ n ih =>
    intro h
    obtain ⟨i1, i2⟩ := ih (fun p hp => h p (by omega))
    have := h n (by omega)
    unfold cnt
    refine ⟨by omega, fun e p hp => ?_⟩
    rcases (show p = n ∨ p < n by omega) with z | z
    · rw [z]; omega
    · exact i2 (by omega) p z
theorem cnt_z {s : Int → Int} : ∀ n : Nat, (∀ p : Nat, p < n → s (95 + p) = 0) → cnt s n = 0 := by
  intro n
  induction n with
  | zero => intro _; rfl
  | succ n ih => intro h; unfold cnt; rw [ih (fun p hp => h p (by omega)), h n (by omega)]; rfl
/-- nothing is done -/
theorem WFb0 {s : Int → Int} (hW : WF s) (h4 : s 4 = 0) : (0 ≤ s 3 ∧ s 3 < s 0) ∧ (∀ p, 0 ≤ p → p < 30 → s (95 + p) = 0) ∧ thOK (s 0) 0 (fun t => s (157 + t)) := by
  obtain ⟨v1, v2, v3, v4, v5, v6, v7, v8, v9⟩ := hW.2
  have w2 := hW.1.2.1
  refine ⟨v1, fun p p0 p1 => ?_, ?_⟩
  · rcases (show p < s 1 ∨ s 1 ≤ p by omega) with z | z
    · have := (cnt_0 (s := s) (s 1).toNat (fun q hq => v3 q (by omega) (by omega))).2 (by omega) p.toNat (by omega)
      rw [show ((p.toNat : Nat) : Int) = p by omega] at this
      exact this
    · exact v4 p z p1
  · have := v8 0 (by omega) (by omega)
    have e : tl s 0 = fun t => s (157 + t) := by funext t; unfold tl; rw [if_pos h4.symm]
    rw [e] at this; exact this
theorem WFb_mk0 {s : Int → Int} (h1 : 0 ≤ s 1 ∧ s 1 ≤ 30) (h4 : s 4 = 0) (h3 : 0 ≤ s 3 ∧ s 3 < s 0) (hd : ∀ p, 0 ≤ p → p < 30 → s (95 + p) = 0) (ht : thOK (s 0) 0 (fun t => s (157 + t))) : WFb s := by
  have e : tl s 0 = fun t => s (157 + t) := by funext t; unfold tl; rw [if_pos h4.symm]
  refine ⟨h3, by omega, fun p a b => Or.inl (hd p a b), fun p a b => hd p (by omega) b, ?_, fun i a b => by omega, fun i j a b c d => by omega, fun i a b => ?_, fun i a b => by omega⟩
  · rw [cnt_z _ (fun p hp => hd p (by omega) (by omega))]; omega
  · have : i = 0 := by omega
    subst this
    rw [e]; exact ht
theorem thOK_congr {w i : Int} {x y : Int → Int} (h : thOK w i x) (e : ∀ t, 0 ≤ t → t < 2 * w → y t = x t ∧ y (24 + t) = x (24 + t)) : thOK w i y := by
  obtain ⟨a, b, c⟩ := h
  refine ⟨fun t t0 t1 => by rw [(e t t0 t1).1]; exact a t t0 t1, fun t u t0 t1 u0 u1 z => ?_, fun t t0 t1 => by rw [(e t t0 t1).2]; exact c t t0 t1⟩
  rw [(e t t0 t1).1, (e u u0 u1).1] at z
  exact b t u t0 t1 u0 u1 z
theorem WFp_of {s s' : Int → Int} (hW : WFp s) (e0 : s' 0 = s 0) (e1 : s' 1 = s 1) (e2 : s' 2 = s 2) (eR : ∀ p, 0 ≤ p → p < s 1 → s' (5 + p) = s (5 + p) ∧ s' (35 + p) = s (35 + p) ∧ 0 ≤ s' (65 + p) ∧ s' (65 + p) ≤ 4) (eF : ∀ k, 0 ≤ k → k < 12 → s' (125 + k) = 0 ∨ s' (125 + k) = 1) (eT : ∀ t, 0 ≤ t → t < s 2 → s' (137 + t) = s (137 + t)) : WFp s' := by
  obtain ⟨w1, w2, w3, w4, w5, w6, w7, w8⟩ := hW
  unfold WFp
  rw [e0, e1, e2]
  refine ⟨w1, w2, w3, fun p a b => ?_, fun p q a b c d n e => ?_, eF, fun t a b => ?_, fun t u a b c d e => ?_⟩
  · have := eR p a b
    rw [this.1, this.2.1]
    exact ⟨(w4 p a b).1, (w4 p a b).2.1, this.2.2⟩
  · have x := eR p a b
    have y := eR q c d
    rw [x.1, y.1] at e
    rw [x.2.1, y.2.1]
    exact w5 p q a b c d n e
  · rw [eT t a b]; exact w7 t a b
  · rw [eT t a b, eT u c d] at e
    exact w8 t u a b c d e
/-- the class's turns stay beside turns that stay -/
theorem RPat_of {h h' : xH} {s s' : Int → Int} (hR : RPat h 1 2 3 4 5 s) (hW : WFp s) (e0 : s' 0 = s 0) (e2 : s' 2 = s 2) (g0 : h' 1 0 = s 0) (g2 : h' 1 2 = s' 1) (g6 : h' 1 6 = s 2)
    (eR : ∀ p, 0 ≤ p → p < s' 1 → h' 2 p = s' (5 + p) ∧ h' 3 p = s' (35 + p) ∧ h' 4 p = s' (65 + p)) (eF : ∃ f : Nat, h' 1 1 = f ∧ f < 2 ^ (s 0).toNat ∧ ∀ k : Nat, (k : Int) < s 0 → s' (125 + k) = bti f k) (eT : ∀ t, 0 ≤ t → t < s 2 → s' (137 + t) = s (137 + t)) (g5 : h' 5 = h 5) : RPat h' 1 2 3 4 5 s' := by
  obtain ⟨q1, q2, q3, q4, q5, q6, q7, q8⟩ := hR
  have w3 := hW.2.2.1
  unfold RPat
  rw [e0, e2, g5]
  refine ⟨g0, g2, g6, eR, eF, q6, q7, ?_⟩
  have : tcs s' = tcs s := by
    unfold tcs
    rw [e2]
    exact List.map_congr_left (fun t ht => by have := List.mem_range.mp ht; exact eT t (by omega) (by omega))
  rw [this]; exact q8
theorem A_hand (k : Int) (hk : inI k) : AI mX7_hand mX8_hand [.inl k] := by
  intro h m hR
  obtain ⟨⟨i1, i2, i3, i4, i5, i6, i7, i8, i9⟩, r1, r2, r3, r4, r5, r6, r7⟩ := id hR
  have w1 := i1.1.1
  have e0 := r1.1
  have v1 := i1.2.1
  by_cases c1 : 0 ≤ k ∧ k < m 1 0
  · refine ⟨m 1 3, fun h' => h' = xu h 6 6 k, fun m' => m' = xu m 1 3 k, inI_s (by omega) (by omega), ?_, ?_, ?_⟩
    · exact sg_X7_hand_0 (by omega) (C_isSlot hk (by omega) (fun _ => ⟨r2.2.2.2.1, rfl⟩) (fun z => absurd (by omega) z))
    · exact sg_X8_hand_0 (by omega) (M_isSlot (by omega) hk (by omega) (fun _ => M_becomes (by omega) ⟨rfl, rfl⟩) (fun z => absurd c1 z))
    · intro h' m' eh em
      subst eh; subst em
      have es : ∀ i, i ≠ 3 → xu m 1 3 k 1 i = m 1 i := fun i hi => xu_ne hi
      have hW' : WF (xu m 1 3 k 1) := ⟨WFp_of i1.1 (es 0 (by omega)) (es 1 (by omega)) (es 2 (by omega)) (fun p a b => ⟨es _ (by omega), es _ (by omega), by rw [es _ (by omega)]; exact (i1.1.2.2.2.1 p a b).2.2⟩) (fun j a b => by rw [es _ (by omega)]; exact i1.1.2.2.2.2.2.1 j a b) (fun t a b => es _ (by omega)), WFb_of i1 (fun i a b => es i (by omega)) (by rw [xu_eq]; exact c1)⟩
      refine hR.patU (kp_xu (by decide)) (kp_xu (by decide)) (xu_cn (by decide)) (xu_cn (by decide)) (xu_cn (by decide)) hW' ?_ ?_
      · obtain ⟨q1, q2, q3, q4, ⟨f, q5, qf, qb⟩, q6, q7, q8⟩ := id r1
        refine RPat_of r1 i1.1 (es 0 (by omega)) (es 2 (by omega)) ?_ ?_ ?_ (fun p a b => ?_) ⟨f, ?_, qf, fun j hj => ?_⟩ (fun t a b => es _ (by omega)) (xu_oth (by decide))
        · simp (disch := omega) only [xu_cn]; exact q1
        · simp (disch := omega) only [xu_cn, xu_ne]; exact q2
        · simp (disch := omega) only [xu_cn]; exact q3
        · rw [es 1 (by omega)] at b
          simp (disch := omega) only [xu_cn, xu_ne]
          exact q4 p a b
        · simp (disch := omega) only [xu_cn]; exact q5
        · simp (disch := omega) only [xu_ne]; exact qb j hj
      · obtain ⟨b1, ⟨D, b2, b3, b4⟩, b5, b6, b7⟩ := id r2
        unfold RBen
        rw [es 0 (by omega), es 4 (by omega)]
        refine ⟨fun t a b => ?_, ⟨D, ?_, b3, fun p hp => ?_⟩, ?_, ?_, fun i a b => ?_⟩
        · simp (disch := omega) only [xu_cn, xu_ne]; exact b1 t a b
        · simp (disch := omega) only [xu_ne]; exact b2
        · simp (disch := omega) only [xu_ne]; exact b4 p hp
        · simp (disch := omega) only [xu_ne]; exact b5
        · rw [xu_eq, xu_eq]
        · simp (disch := omega) only [xu_cn, xu_ne]; exact b7 i a b
  · refine A_ref hR ⟨-1, inI_s (by omega) (by omega), ?_, ?_⟩
    · exact sg_X7_hand_0 (by omega) (C_isSlot hk (by omega) (fun z => absurd (by omega) c1) (fun _ => ⟨rfl, keepC_rf h⟩))
    · exact sg_X8_hand_0 (by omega) (M_isSlot (by omega) hk (by omega) (fun z => absurd z c1) (fun _ => ⟨rfl, keepM_rf m⟩))
