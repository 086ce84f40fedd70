/-! API methods that only ask (3) -/
theorem no_inj : ∀ (n : Nat) (f : Int → Int), (∀ t : Int, 0 ≤ t → t < n + 1 → 0 ≤ f t ∧ f t < n) → (∀ t u : Int, 0 ≤ t → t < n + 1 → 0 ≤ u → u < n + 1 → f t = f u → t = u) → False := by
  intro n
  induction n with
  | zero => intro f h1 h2; have := h1 0 (by omega) (by omega); omega
  | succ n ih =>
    intro f h1 h2
    have a := h1 ((n : Int) + 1) (by omega) (by omega)
    refine ih (fun t => if f t = n then f ((n : Int) + 1) else f t) (fun t t0 t1 => ?_) (fun t u t0 t1 u0 u1 e => ?_)
    · have b := h1 t t0 (by omega)
      show 0 ≤ (if f t = n then f ((n : Int) + 1) else f t) ∧ (if f t = n then f ((n : Int) + 1) else f t) < n
      split
      · rename_i z
        have : f ((n : Int) + 1) ≠ n := fun w => by
          have := h2 t (n + 1) t0 (by omega) (by omega) (by omega) (by rw [z, w])
          omega
        omega
      · omega
    · have e : (if f t = n then f ((n : Int) + 1) else f t) = (if f u = n then f ((n : Int) + 1) else f u) := e
      split at e
      · rename_i z1
        split at e
        · rename_i z2
          exact h2 t u t0 (by omega) u0 (by omega) (by rw [z1, z2])
        · have := h2 (n + 1) u (by omega) (by omega) u0 (by omega) e
          omega
      · split at e
        · have := h2 t (n + 1) t0 (by omega) (by omega) (by omega) e
          omega
        · exact h2 t u t0 (by omega) u0 (by omega) e
theorem inj_surj {N : Int} {f : Int → Int} (h1 : ∀ t, 0 ≤ t → t < N → 0 ≤ f t ∧ f t < N) (h2 : ∀ t u, 0 ≤ t → t < N → 0 ≤ u → u < N → f t = f u → t = u) {y : Int} (y0 : 0 ≤ y) (y1 : y < N) : ∃ t, 0 ≤ t ∧ t < N ∧ f t = y := by
  by_cases hx : ∃ t, 0 ≤ t ∧ t < N ∧ f t = y
  · exact hx
  · exfalso
    have hn : ∀ t, 0 ≤ t → t < N → f t ≠ y := fun t a b c => hx ⟨t, a, b, c⟩
    obtain ⟨n, hN⟩ : ∃ n : Nat, N = (n : Int) + 1 := ⟨(N - 1).toNat, by omega⟩
    subst hN
    refine no_inj n (fun t => if f t = n then y else f t) (fun t t0 t1 => ?_) (fun t u t0 t1 u0 u1 e => ?_)
    · have b := h1 t t0 t1
      have c := hn t t0 t1
      show 0 ≤ (if f t = n then y else f t) ∧ (if f t = n then y else f t) < n
      split
      · omega
      · omega
    · have e : (if f t = n then y else f t) = (if f u = n then y else f u) := e
      split at e
      · rename_i z1
        split at e
        · rename_i z2
          exact h2 t u t0 t1 u0 u1 (by rw [z1, z2])
        · exact absurd e.symm (hn u u0 u1)
      · split at e
        · exact absurd e (hn t t0 t1)
        · exact h2 t u t0 t1 u0 u1 e
/-- threads and overs as they are now -/
theorem th_now {s : Int → Int} (hW : WF s) : (∀ t, 0 ≤ t → t < 2 * s 0 → 0 ≤ s (157 + t) ∧ s (157 + t) < 2 * s 0) ∧ (∀ t u, 0 ≤ t → t < 2 * s 0 → 0 ≤ u → u < 2 * s 0 → s (157 + t) = s (157 + u) → t = u) ∧ (∀ t, 0 ≤ t → t < 2 * s 0 → 0 ≤ s (181 + t) ∧ s (181 + t) ≤ 6 * s 4) := by
  obtain ⟨v1, v2, v3, v4, v5, v6, v7, v8, v9⟩ := hW.2
  have h := v8 (s 4) v2.1 (Int.le_refl _)
  have e : ∀ t, tl s (s 4) t = s (157 + t) := fun t => by unfold tl; rw [if_pos rfl]
  unfold thOK at h
  simp only [e] at h
  refine ⟨h.1, h.2.1, fun t a b => ?_⟩
  have := h.2.2 t a b
  rw [show 157 + (24 + t) = 181 + t by omega] at this
  exact this
theorem Q_thread (k e : Int) (hk : inI k) (he : inI e) {h m : xH} (hR : Rel h m) : QI mX7_thread mX8_thread [.inl k, .inl e] h m := by
  obtain ⟨⟨hW, -⟩, hP, hB, -⟩ := id hR
  have w1 := hW.1.1
  have e0 := hP.1
  obtain ⟨n1, n2, n3⟩ := th_now hW
  by_cases c1 : 0 ≤ k ∧ k < m 1 0
  · by_cases c2 : 0 ≤ e ∧ e ≤ 1
    · have a := n1 (2 * k + e) (by omega) (by omega)
      have b := (hB.1 (2 * k + e) (by omega) (by omega)).1
      refine ⟨m 1 (157 + (2 * k + e)), inI_s (by omega) (by omega), ?_, ?_⟩
      · exact sg_X7_thread_0 (by omega) (C_isSlot hk (by omega) (fun _ => ⟨he, by omega, fun _ => ⟨he, fun _ => ⟨by omega, b, keepC_rf h⟩, by omega⟩⟩) (fun z => absurd (by omega) z))
      · exact sg_X8_thread_0 (by omega) (M_isSlot (by omega) hk (by omega) (fun _ => ⟨he, M_isIn (inL_I he) (by unfold inL; omega) (by unfold inL; omega) (fun _ => ⟨by omega, by rw [show 157 + 2 * k + e = 157 + (2 * k + e) by omega], keepM_rf m⟩) (fun z => absurd c2 z)⟩) (fun z => absurd c1 z))
    · refine ⟨-1, by unfold inI; omega, ?_, ?_⟩
      · exact sg_X7_thread_0 (by omega) (C_isSlot hk (by omega) (fun _ => ⟨he, fun _ => ⟨rfl, keepC_rf h⟩, fun _ => ⟨he, by omega, fun _ => ⟨rfl, keepC_rf h⟩⟩⟩) (fun z => absurd (by omega) z))
      · exact sg_X8_thread_0 (by omega) (M_isSlot (by omega) hk (by omega) (fun _ => ⟨he, M_isIn (inL_I he) (by unfold inL; omega) (by unfold inL; omega) (fun z => absurd z c2) (fun z => ⟨rfl, keepM_rf m⟩)⟩) (fun z => absurd c1 z))
  · refine ⟨-1, by unfold inI; omega, ?_, ?_⟩
    · exact sg_X7_thread_0 (by omega) (C_isSlot hk (by omega) (fun z => absurd (by omega) c1) (fun _ => ⟨rfl, keepC_rf h⟩))
    · exact sg_X8_thread_0 (by omega) (M_isSlot (by omega) hk (by omega) (fun z => absurd z c1) (fun _ => ⟨rfl, keepM_rf m⟩))
theorem Q_where (t : Int) (ht : inI t) {h m : xH} (hR : Rel h m) : QI mX7_where mX8_where [.inl t] h m := by
  obtain ⟨⟨hW, -⟩, hP, hB, -⟩ := id hR
  have w1 := hW.1.1
  have e0 := hP.1
  obtain ⟨n1, n2, n3⟩ := th_now hW
  by_cases c1 : 0 ≤ t ∧ t < 2 * m 1 0
  · obtain ⟨y, y0, y1, ey⟩ := inj_surj (N := 2 * m 1 0) (f := fun t => m 1 (157 + t)) n1 n2 c1.1 c1.2
    have ey : m 1 (157 + y) = t := ey
    refine ⟨y, inI_s (by omega) (by omega), ?_, ?_⟩
    · refine sg_X7_where_0 (by omega) (C_isThread ht (by omega) (fun _ => ?_) (fun z => absurd (by omega) z))
      have lp : ∀ i : Int, i ≤ y → 0 ≤ i → gI wdC 30 mX7_where 12 [some (.inr (.inr 0)), some (.inl t), some (.inl i)] h (fun n h' => n = y ∧ keepC h h') := by
        refine dn ?_ ?_
        · intro _
          have b := (hB.1 y y0 y1).1
          exact sg_X7_where_12 ⟨⟨inI_s (by omega) (by omega), inI_s (by omega) (by omega)⟩, by omega, fun _ => ⟨by omega, ⟨by rw [b, ey]; exact ht, ht⟩, fun z => absurd (by rw [b, ey]) z, fun _ => ⟨rfl, keepC_rf h⟩⟩⟩
        · intro i hi ih i0
          have b := (hB.1 i i0 (by omega)).1
          have a := n1 i i0 (by omega)
          exact sg_X7_where_12 ⟨⟨inI_s (by omega) (by omega), inI_s (by omega) (by omega)⟩, by omega, fun _ => ⟨by omega, ⟨by rw [b]; exact inI_s (by omega) (by omega), ht⟩, fun z => ih (by omega), fun z => absurd (n2 i y i0 (by omega) y0 y1 (by rw [← b, z, ey])) (by omega)⟩⟩
      exact lp 0 y0 (by omega)
    · refine sg_X8_where_0 (by omega) (M_isThread (by omega) ht (by omega) (fun _ => ?_) (fun z => absurd c1 z))
      have lp : ∀ i : Int, i ≤ y → 0 ≤ i → gI wdM 30 mX8_where 12 [some (.inr (.inr 0)), some (.inl t), some (.inl i)] m (fun n h' => n = y ∧ keepM m h') := by
        refine dn ?_ ?_
        · intro _
          exact sg_X8_where_12 ⟨by omega, ⟨by rw [ey]; exact ht, ht⟩, fun _ => ⟨rfl, keepM_rf m⟩, fun z => absurd ey z⟩
        · intro i hi ih i0
          have a := n1 i i0 (by omega)
          exact sg_X8_where_12 ⟨by omega, ⟨inI_s (by omega) (by omega), ht⟩, fun z => absurd (n2 i y i0 (by omega) y0 y1 (by rw [z, ey])) (by omega), fun z => ih (by omega)⟩
      exact lp 0 y0 (by omega)
  · refine ⟨-1, by unfold inI; omega, ?_, ?_⟩
    · exact sg_X7_where_0 (by omega) (C_isThread ht (by omega) (fun z => absurd (by omega) c1) (fun _ => ⟨rfl, keepC_rf h⟩))
    · exact sg_X8_where_0 (by omega) (M_isThread (by omega) ht (by omega) (fun z => absurd z c1) (fun _ => ⟨rfl, keepM_rf m⟩))
theorem Q_overs (t : Int) (ht : inI t) {h m : xH} (hR : Rel h m) : QI mX7_overs mX8_overs [.inl t] h m := by
  obtain ⟨⟨hW, -⟩, hP, hB, -⟩ := id hR
  have w1 := hW.1.1
  have w2 := hW.1.2.1
  have v2 := hW.2.2.1
  have e0 := hP.1
  obtain ⟨n1, n2, n3⟩ := th_now hW
  by_cases c1 : 0 ≤ t ∧ t < 2 * m 1 0
  · have a := n3 t c1.1 c1.2
    refine ⟨m 1 (181 + t), inI_s (by omega) (by omega), ?_, ?_⟩
    · exact sg_X7_overs_0 (by omega) (C_isThread ht (by omega) (fun _ => ⟨by omega, (hB.1 t c1.1 c1.2).2, keepC_rf h⟩) (fun z => absurd (by omega) z))
    · exact sg_X8_overs_0 (by omega) (M_isThread (by omega) ht (by omega) (fun _ => ⟨by omega, rfl, keepM_rf m⟩) (fun z => absurd c1 z))
  · refine ⟨-1, by unfold inI; omega, ?_, ?_⟩
    · exact sg_X7_overs_0 (by omega) (C_isThread ht (by omega) (fun z => absurd (by omega) c1) (fun _ => ⟨rfl, keepC_rf h⟩))
    · exact sg_X8_overs_0 (by omega) (M_isThread (by omega) ht (by omega) (fun z => absurd z c1) (fun _ => ⟨rfl, keepM_rf m⟩))
/-- how many acts a stitch has, whether its act is a cross -/
def acn (st : Int) : Int := if st = 0 then 1 else if st = 1 then 1 else if st = 2 then 2 else if st = 3 then 3 else 4
def icr (st a : Int) : Bool := decide (st ≠ 1 ∧ a % 2 = 0)
theorem C_actCount {d : Nat} {st : Int} {h : xH} {Q : Int → xH → Prop} (hs : 0 ≤ st ∧ st ≤ 4) (hq : Q (acn st) h) : cI wdC d mX7_actCount [.inl st] h Q := by
  unfold acn at hq
  refine sg_X7_actCount_0 ⟨inI_s (by omega) (by omega), fun z => ?_, fun z => ?_, fun z => ?_, fun z => ?_, fun z => ?_⟩
  · rwa [if_pos z] at hq
  · rwa [if_neg (by omega), if_pos z] at hq
  · rwa [if_neg (by omega), if_neg (by omega), if_pos z] at hq
  · rwa [if_neg (by omega), if_neg (by omega), if_neg (by omega), if_pos z] at hq
  · rwa [if_neg (by omega), if_neg (by omega), if_neg (by omega), if_neg (by omega)] at hq
theorem xand_1 {a : Int} (h0 : 0 ≤ a) (h1 : a < 1000) : xandI a 1 = a % 2 := by
  obtain ⟨n, rfl⟩ := Int.eq_ofNat_of_zero_le h0
  rw [show (1 : Int) = ((1 : Nat) : Int) from rfl, xandI_nat (by omega), and_one_nat]
  rfl
theorem C_isCrossActI {d : Nat} {st a : Int} {h : xH} {Q : Int → xH → Prop} (hs : 0 ≤ st ∧ st ≤ 4) (ha : 0 ≤ a ∧ a < 1000) (hq : Q (b2i (icr st a)) h) : cI wdC d mX7_isCrossAct [.inl st, .inl a] h Q := by
  unfold icr at hq
  refine sg_X7_isCrossAct_0 ⟨inI_s (by omega) (by omega), fun z => ?_, fun z => ?_⟩
  · rwa [decide_eq_false (fun q => q.1 z)] at hq
  · rw [xand_1 ha.1 ha.2]
    refine ⟨inI_s (by omega) (by omega), fun z2 => ?_, fun z2 => ?_⟩
    · rwa [decide_eq_false (fun q => z2 q.2)] at hq
    · rwa [decide_eq_true ⟨z, z2⟩] at hq
theorem C_isCrossAct {d : Nat} {st a : Int} {h : xH} {T F : xH → Prop} (hs : 0 ≤ st ∧ st ≤ 4) (ha : 0 ≤ a ∧ a < 1000) (ht : icr st a = true → T h) (hf : icr st a = false → F h) : cB wdC d mX7_isCrossAct [.inl st, .inl a] h T F :=
  cB_of (b := icr st a) (fun _ hq => C_isCrossActI hs ha hq) ht hf
def cac (st b : Int) : Nat → Int
  | 0 => 0
  | n + 1 => if b2i (icr st n) = b then cac st b n + 1 else cac st b n
/-- acts of a kind that a stitch has -/
def aw (k st : Int) : Int := if k = 0 then (if st = 1 then 0 else if 2 < st then 2 else 1) else (if st = 0 then 0 else if st = 4 then 2 else 1)
theorem cac_aw : ∀ st : Nat, st < 5 → ∀ k : Nat, k < 2 → cac st (1 - k) (acn st).toNat = aw k st := by decide +kernel
theorem C_actsOf {d : Nat} {st k c : Int} {h : xH} {Q : Int → xH → Prop} (hd : 1 ≤ d) (hs : 0 ≤ st ∧ st ≤ 4) (hk : 0 ≤ k ∧ k ≤ 1) (hc : c = 1 - k) (hq : Q (aw k st) h) : cI wdC d mX7_actsOf [.inl st, .inl c] h Q := by
  subst hc
  have ea : (0 ≤ acn st ∧ acn st ≤ 4) := by unfold acn; split <;> (try split) <;> (try split) <;> (try split) <;> omega
  have lp : ∀ a : Int, a ≤ acn st → 0 ≤ a → gI wdC d mX7_actsOf 4 [some (.inl st), some (.inl (1 - k)), some (.inl (cac st (1 - k) a.toNat)), some (.inl a)] h Q := by
    refine dn ?_ ?_
    · intro _
      refine sg_X7_actsOf_4 (by omega) (C_actCount hs ⟨⟨inI_s (by omega) (by omega), inI_s (by omega) (by omega)⟩, fun _ => ?_, fun z => absurd z (by omega)⟩)
      have := cac_aw st.toNat (by omega) k.toNat (by omega)
      rw [show ((st.toNat : Nat) : Int) = st by omega, show ((k.toNat : Nat) : Int) = k by omega] at this
      rw [this]; exact hq
    · intro a ha ih a0
      have e : (a + 1).toNat = a.toNat + 1 := by omega
      have et : ((a.toNat : Nat) : Int) = a := by omega
      have ih := ih (by omega)
      rw [e, cac, et] at ih
      refine sg_X7_actsOf_4 (by omega) (C_actCount hs ⟨⟨inI_s (by omega) (by omega), inI_s (by omega) (by omega)⟩, fun z => absurd z (by omega), fun _ => C_isCrossActI hs (by omega) ⟨⟨b2i_in _, inI_s (by omega) (by omega)⟩, fun z => ?_, fun z => ?_⟩⟩)
      · rwa [if_neg z] at ih
      · rwa [if_pos z] at ih
  exact sg_X7_actsOf_0 (lp 0 (by omega) (by omega))
def asum (s : Int → Int) (k : Int) : Nat → Int
  | 0 => 0
  | n + 1 => if s (95 + n) = 0 then asum s k n else asum s k n + aw k (s (65 + n))
theorem aw_in (k st : Int) : 0 ≤ aw k st ∧ aw k st ≤ 2 := by
  unfold aw
  split <;> split <;> (try split) <;> omega
theorem asum_in (s : Int → Int) (k : Int) : ∀ n : Nat, 0 ≤ asum s k n ∧ asum s k n ≤ 2 * n := by
  intro n
  induction n with
  | zero => simp [asum]
  | succ n ih =>
    have := aw_in k (s (65 + n))
    unfold asum
    split <;> omega
theorem Q_acts (k : Int) (hk : inI k) {h m : xH} (hR : Rel h m) : QI mX7_acts mX8_acts [.inl k] h m := by
  obtain ⟨⟨hW, -⟩, hP, hB, -⟩ := id hR
  obtain ⟨w1, w2, w3, w4, w5, w6, w7, w8⟩ := id hW.1
  have v3 := hW.2.2.2.1
  have e1 := hP.2.1
  by_cases c1 : 0 ≤ k ∧ k ≤ 1
  · have bd := asum_in (m 1) k (m 1 1).toNat
    refine ⟨asum (m 1) k (m 1 1).toNat, inI_s (by omega) (by omega), ?_, ?_⟩
    · refine sg_X7_acts_0 ⟨hk, by omega, fun _ => ⟨hk, fun _ => ?_, by omega⟩⟩
      have lp : ∀ t : Int, t ≤ m 1 1 → 0 ≤ t → gI wdC 30 mX7_acts 15 [some (.inr (.inr 0)), some (.inl k), some (.inl (asum (m 1) k t.toNat)), some (.inl t)] h (fun n h' => n = asum (m 1) k (m 1 1).toNat ∧ keepC h h') := by
        refine dn ?_ ?_
        · intro _
          exact sg_X7_acts_15 (by omega) ⟨⟨inI_s (by omega) (by omega), inI_s (by omega) (by omega)⟩, fun _ => ⟨rfl, keepC_rf h⟩, fun z => absurd z (by omega)⟩
        · intro t ht ih t0
          have e : (t + 1).toNat = t.toNat + 1 := by omega
          have et : ((t.toNat : Nat) : Int) = t := by omega
          have ih := ih (by omega)
          rw [e, asum, et] at ih
          have a := w4 t t0 ht
          have b := (hP.2.2.2.1 t t0 ht).2.2
          refine sg_X7_acts_15 (by omega) ⟨⟨inI_s (by omega) (by omega), inI_s (by omega) (by omega)⟩, fun z => absurd z (by omega), fun _ => C_isDone (by omega) hW hB (by omega) (fun q => ⟨by omega, hk, fun z => ?_, fun z => ?_⟩) (fun q => ?_)⟩
          · rw [if_neg (by omega), ← b] at ih
            exact C_actsOf (k := k) (by omega) (by omega) c1 (by omega) ih
          · rw [if_neg (by omega), ← b] at ih
            exact C_actsOf (k := k) (by omega) (by omega) c1 (by omega) ih
          · rw [if_pos q] at ih; exact ih
      exact lp 0 (by omega) (by omega)
    · refine sg_X8_acts_0 (by omega) ⟨hk, M_isIn (inL_I hk) (by unfold inL; omega) (by unfold inL; omega) (fun _ => ?_) (fun z => absurd c1 z)⟩
      have lp : ∀ t : Int, t ≤ m 1 1 → 0 ≤ t → gI wdM 30 mX8_acts 16 [some (.inr (.inr 0)), some (.inl k), some (.inl (asum (m 1) k t.toNat)), some (.inl t), none] m (fun n h' => n = asum (m 1) k (m 1 1).toNat ∧ keepM m h') := by
        refine dn ?_ ?_
        · intro _
          exact sg_X8_acts_16 ⟨⟨inI_s (by omega) (by omega), inI_s (by omega) (by omega)⟩, fun _ => ⟨rfl, keepM_rf m⟩, fun z => absurd z (by omega)⟩
        · intro t ht ih t0
          have e : (t + 1).toNat = t.toNat + 1 := by omega
          have et : ((t.toNat : Nat) : Int) = t := by omega
          have ih := ih (by omega)
          rw [e, asum, et] at ih
          have a := w4 t t0 ht
          have b := v3 t t0 (by omega)
          have i5 : inI (m 1 (65 + t)) := inI_s (by omega) (by omega)
          refine sg_X8_acts_16 ⟨⟨inI_s (by omega) (by omega), inI_s (by omega) (by omega)⟩, fun z => absurd z (by omega), fun _ => ⟨by omega, inI_s (by omega) (by omega), fun q => ⟨by omega, hk, fun z => ⟨i5, fun z2 => ⟨i5, fun z3 => ?_, fun z3 => ?_⟩, fun z2 => ?_⟩, fun z => ⟨i5, fun z2 => ⟨i5, fun z3 => ?_, fun z3 => ?_⟩, fun z2 => ?_⟩⟩, fun q => ?_⟩⟩
          · rw [if_neg q] at ih; unfold aw at ih; rw [if_neg z, if_neg z2, if_neg z3] at ih; exact ih
          · rw [if_neg q] at ih; unfold aw at ih; rw [if_neg z, if_neg z2, if_pos z3] at ih; exact ih
          · rw [if_neg q] at ih; unfold aw at ih; rw [if_neg z, if_pos z2] at ih; exact ih
          · rw [if_neg q] at ih; unfold aw at ih; rw [if_pos z, if_neg z2, if_neg (by omega)] at ih; exact ih
          · rw [if_neg q] at ih; unfold aw at ih; rw [if_pos z, if_neg z2, if_pos z3] at ih; exact ih
          · rw [if_neg q] at ih; unfold aw at ih; rw [if_pos z, if_pos z2] at ih; exact ih
          · rw [if_pos q] at ih; exact ih
      exact lp 0 (by omega) (by omega)
  · refine ⟨-1, by unfold inI; omega, ?_, ?_⟩
    · exact sg_X7_acts_0 ⟨hk, fun _ => ⟨rfl, keepC_rf h⟩, fun _ => ⟨hk, by omega, fun _ => ⟨rfl, keepC_rf h⟩⟩⟩
    · exact sg_X8_acts_0 (by omega) ⟨hk, M_isIn (inL_I hk) (by unfold inL; omega) (by unfold inL; omega) (fun z => absurd z c1) (fun z => ⟨rfl, keepM_rf m⟩)⟩
theorem Q_paper (i : Int) (hi : inI i) {h m : xH} (hR : Rel h m) : QI mX7_paper mX8_paper [.inl i] h m := by
  obtain ⟨⟨hW, h2, h3, h4, h5, h6, -⟩, hP, hB, -, -, h7, -⟩ := id hR
  by_cases c1 : 0 ≤ i ∧ i < m 0 23
  · have a := h6 i c1.1 c1.2
    refine ⟨m 15 i, inI_s (by omega) (by omega), ?_, ?_⟩
    · exact sg_X7_paper_0 ⟨hi, by omega, fun _ => ⟨⟨hi, inI_s (by omega) (by omega)⟩, fun _ => ⟨by omega, h7.2 i c1.1 c1.2, keepC_rf h⟩, by omega⟩⟩
    · exact sg_X8_paper_0 (by omega) ⟨hi, inI_s (by omega) (by omega), M_isIn (inL_I hi) (by unfold inL; omega) (by unfold inL; omega) (fun _ => ⟨by omega, rfl, keepM_rf m⟩) (fun z => absurd (by omega) z)⟩
  · refine ⟨-1, by unfold inI; omega, ?_, ?_⟩
    · exact sg_X7_paper_0 ⟨hi, fun _ => ⟨rfl, keepC_rf h⟩, fun _ => ⟨⟨hi, inI_s (by omega) (by omega)⟩, by omega, fun _ => ⟨rfl, keepC_rf h⟩⟩⟩
    · exact sg_X8_paper_0 (by omega) ⟨hi, inI_s (by omega) (by omega), M_isIn (inL_I hi) (by unfold inL; omega) (by unfold inL; omega) (fun z => absurd (by omega) c1) (fun z => ⟨rfl, keepM_rf m⟩)⟩
theorem Q_get (l i : Int) (hl : inI l) (hi : inI i) {h m : xH} (hR : Rel h m) : QL mX7_get mX8_get [.inl l, .inl i] h m := by
  obtain ⟨⟨hW, h2, h3, h4, h5, h6, g7, g8, -⟩, hP, hB, -, -, h7, h8, -⟩ := id hR
  by_cases c1 : 0 ≤ l ∧ l < 4
  · have a := g7 l c1.1 c1.2
    have b := h8 l c1.1 c1.2
    by_cases c2 : 0 ≤ i ∧ i < m 17 l
    · refine ⟨m 19 (30 * l + i), g8 l i c1.1 c1.2 c2.1 c2.2, ?_, ?_⟩
      · exact sg_X7_get_0 (by omega) (C_isList hl (fun _ => C_hasPlace c1 hi (by omega) (fun _ => sg_X4_at_0 ⟨by omega, b.2 i c2.1 c2.2, keepC_rf h⟩) (fun z => absurd (by omega) z)) (fun z => absurd c1 z))
      · exact sg_X8_get_0 (by omega) (M_isList (by omega) hl (fun _ => ⟨hi, by omega, inI_s (by omega) (by omega), M_isIn (inL_I hi) (by unfold inL; omega) (by unfold inL; omega) (fun _ => ⟨by omega, rfl, keepM_rf m⟩) (fun z => absurd (by omega) z)⟩) (fun z => absurd c1 z))
    · refine ⟨-9223372036854775808, by unfold inL; omega, ?_, ?_⟩
      · exact sg_X7_get_0 (by omega) (C_isList hl (fun _ => C_hasPlace c1 hi (by omega) (fun z => absurd (by omega) c2) (fun z => ⟨rfl, keepC_rf h⟩)) (fun z => absurd c1 z))
      · exact sg_X8_get_0 (by omega) (M_isList (by omega) hl (fun _ => ⟨hi, by omega, inI_s (by omega) (by omega), M_isIn (inL_I hi) (by unfold inL; omega) (by unfold inL; omega) (fun z => absurd (by omega) c2) (fun z => ⟨rfl, keepM_rf m⟩)⟩) (fun z => absurd c1 z))
  · refine ⟨-9223372036854775808, by unfold inL; omega, ?_, ?_⟩
    · exact sg_X7_get_0 (by omega) (C_isList hl (fun z => absurd z c1) (fun _ => ⟨rfl, keepC_rf h⟩))
    · exact sg_X8_get_0 (by omega) (M_isList (by omega) hl (fun z => absurd z c1) (fun _ => ⟨rfl, keepM_rf m⟩))
