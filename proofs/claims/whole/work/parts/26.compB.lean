/-! the class: Needs -/
/-- a row of the first p pins, by their rows -/
def SB (s b : Int → Int) (p : Int) : Prop := (∀ i, 0 ≤ i → i < p → 0 ≤ b i ∧ b i < p) ∧ (∀ i j, 0 ≤ i → i < j → j < p → s (5 + b i) ≤ s (5 + b j) ∧ b i ≠ b j) ∧ (∀ q, 0 ≤ q → q < p → ∃ i, 0 ≤ i ∧ i < p ∧ b i = q)
theorem SB_ins {s b b' : Int → Int} {p to : Int} (hS : SB s b p) (h0 : 0 ≤ to) (h1 : to ≤ p) (hlo : ∀ i, 0 ≤ i → i < to → b' i = b i) (hto : b' to = p) (hhi : ∀ i, to < i → i ≤ p → b' i = b (i - 1)) (hle : to = 0 ∨ s (5 + b (to - 1)) ≤ s (5 + p)) (hgt : ∀ i, to ≤ i → i < p → s (5 + p) < s (5 + b i)) : SB s b' (p + 1) := by
  obtain ⟨a1, a2, a3⟩ := hS
  refine ⟨fun i g0 g1 => ?_, fun i j g0 g1 g2 => ?_, fun q g0 g1 => ?_⟩
  · rcases (show i < to ∨ i = to ∨ to < i by omega) with e | e | e
    · rw [hlo i g0 e]; have := a1 i g0 (by omega); omega
    · rw [e, hto]; omega
    · rw [hhi i e (by omega)]; have := a1 (i - 1) (by omega) (by omega); omega
  · rcases (show j < to ∨ j = to ∨ to < j by omega) with e | e | e
    · rw [hlo i g0 (by omega), hlo j (by omega) e]; exact a2 i j g0 g1 (by omega)
    · rw [hlo i g0 (by omega), e, hto]
      have b1 := a1 i g0 (by omega)
      refine ⟨?_, by omega⟩
      rcases (show i = to - 1 ∨ i < to - 1 by omega) with z | z
      · rw [z]; omega
      · have := (a2 i (to - 1) g0 z (by omega)).1; omega
    · rw [hhi j e (by omega)]
      have bj := a1 (j - 1) (by omega) (by omega)
      rcases (show i < to ∨ i = to ∨ to < i by omega) with z | z | z
      · rw [hlo i g0 z]; exact a2 i (j - 1) g0 (by omega) (by omega)
      · rw [z, hto]; exact ⟨by have := hgt (j - 1) (by omega) (by omega); omega, by omega⟩
      · rw [hhi i z (by omega)]; exact a2 (i - 1) (j - 1) (by omega) (by omega) (by omega)
  · rcases (show q = p ∨ q < p by omega) with e | e
    · exact ⟨to, h0, by omega, by rw [hto, e]⟩
    · obtain ⟨i, c0, c1, c2⟩ := a3 q g0 e
      rcases (show i < to ∨ to ≤ i by omega) with z | z
      · exact ⟨i, c0, by omega, by rw [hlo i c0 z]; exact c2⟩
      · exact ⟨i + 1, by omega, by omega, by rw [hhi (i + 1) (by omega) (by omega), show i + 1 - 1 = i by omega]; exact c2⟩
theorem C_sortByRow {d : Nat} {h : xH} {s : Int → Int} {Q : xH → Prop} (hW : WFp s) (hR : RPat h 1 2 3 4 5 s) (hq : ∀ h', kp [30] h h' → SB s (h' 30) (s 1) → Q h') : cV wdC d mX2_sortByRow [.inr (.inr 26), .inr (.inr 1)] h Q := by
  obtain ⟨w1, w2, w3, w4, w5, w6, w7, w8⟩ := id hW
  obtain ⟨q1, q2, q3, q4, -, q6, q7, q8⟩ := id hR
  have outer : ∀ p : Int, p ≤ s 1 → 0 ≤ p → ∀ h1 : xH, kp [30] h h1 → SB s (h1 30) p → gV wdC d mX2_sortByRow 2 [some (.inr (.inr 26)), some (.inr (.inr 1)), some (.inl p), none] h1 Q := by
    refine dn ?_ ?_
    · intro _ h1 hk hs
      have e1 : h1 1 = h 1 := hk 1 (by decide)
      refine sg_X2_sortByRow_2 ⟨⟨inI_s (by omega) (by omega), by rw [e1]; exact inI_s (by omega) (by omega)⟩, fun _ => hq h1 hk hs, fun z => absurd z (by rw [e1]; omega)⟩
    · intro p hp ih h0 h1 hk hs
      have e1 : h1 1 = h 1 := hk 1 (by decide)
      have bp := w4 p h0 hp
      have cp := q4 p h0 hp
      have inner : ∀ (n : Nat) (to : Int), to = n → to ≤ p → ∀ h2 : xH, kp [30] h h2 → (∀ i, 0 ≤ i → i < to → h2 30 i = h1 30 i) → (∀ i, to < i → i ≤ p → h2 30 i = h1 30 (i - 1)) → (∀ i, to ≤ i → i < p → s (5 + p) < s (5 + h1 30 i)) → gV wdC d mX2_sortByRow 12 [some (.inr (.inr 26)), some (.inr (.inr 1)), some (.inl p), some (.inl to)] h2 Q := by
        intro n
        induction n with
        | zero =>
          intro to et htp h2 k2 lo hi gt
          refine sg_X2_sortByRow_12 ⟨inI_s (by omega) (by omega), fun _ => ⟨by omega, ih (by omega) _ (kp_tr k2 (kp_xu (by decide))) ?_⟩, fun z => absurd z (by omega)⟩
          refine SB_ins hs (to := to) (by omega) htp (fun i a b => by omega) xu_eq (fun i a b => by rw [xu_ne (by omega)]; exact hi i a b) (Or.inl (by omega)) gt
        | succ n ihn =>
          intro to et htp h2 k2 lo hi gt
          have e2 : h2 2 = h 2 := k2 2 (by decide)
          have el := lo (to - 1) (by omega) (by omega)
          have bl := hs.1 (to - 1) (by omega) (by omega)
          have wl := w4 _ bl.1 (by omega)
          have ql := q4 _ bl.1 (by omega)
          refine sg_X2_sortByRow_12 ⟨inI_s (by omega) (by omega), fun z => absurd z (by omega), fun _ => ⟨by omega, by omega, by omega, ⟨?_, ?_⟩, fun z => ⟨by omega, ?_⟩, fun z => ⟨by omega, by omega, ?_⟩⟩⟩
          · rw [e2, el, ql.1]; exact inI_s (by omega) (by omega)
          · rw [e2, cp.1]; exact inI_s (by omega) (by omega)
          · rw [e2, el, ql.1, cp.1] at z
            refine ih (by omega) _ (kp_tr k2 (kp_xu (by decide))) (SB_ins hs (to := to) (by omega) htp (fun i a b => by rw [xu_ne (by omega)]; exact lo i a b) xu_eq (fun i a b => by rw [xu_ne (by omega)]; exact hi i a b) (Or.inr z) gt)
          · rw [e2, el, ql.1, cp.1] at z
            rw [el]
            refine ihn (to + -1) (by omega) (by omega) _ (kp_tr k2 (kp_xu (by decide))) (fun i a b => by rw [xu_ne (by omega)]; exact lo i a (by omega)) (fun i a b => ?_) (fun i a b => ?_)
            · rcases (show i = to ∨ to < i by omega) with g | g
              · rw [g, xu_eq]
              · rw [xu_ne (by omega)]; exact hi i g b
            · rcases (show i = to - 1 ∨ to ≤ i by omega) with g | g
              · rw [g]; exact z
              · exact gt i g b
      refine sg_X2_sortByRow_2 ⟨⟨inI_s (by omega) (by omega), by rw [e1]; exact inI_s (by omega) (by omega)⟩, fun z => absurd z (by rw [e1]; omega), fun _ => ?_⟩
      exact inner p.toNat p (by omega) (by omega) h1 hk (fun i _ _ => rfl) (fun i a b => by omega) (fun i a b => by omega)
  exact sg_X2_sortByRow_0 (outer 0 (by omega) (by omega) h (kp_rf _ _) ⟨fun i a b => by omega, fun i j a b c => by omega, fun q a b => by omega⟩)
theorem C_fill {d : Nat} {h : xH} {v : Int} {Q : xH → Prop} (hq : ∀ h', kp [31] h h' → (∀ k, 0 ≤ k → k < 12 → h' 31 k = v) → Q h') : cV wdC d mJ_fill [.inr (.inr 31), .inl v] h Q := by
  have lp : ∀ k : Int, k ≤ 12 → 0 ≤ k → ∀ h1 : xH, kp [31] h h1 → (∀ i, 0 ≤ i → i < k → h1 31 i = v) → gV wdC d mJ_fill 5 [some (.inr (.inr 31)), some (.inl v), some (.inl k), some (.inl 12)] h1 Q := by
    refine dn ?_ ?_
    · intro _ h1 hk hv
      exact sg_J_fill_5 ⟨⟨inI_s (by omega) (by omega), inI_s (by omega) (by omega)⟩, fun _ => hq h1 hk hv, fun z => absurd z (by omega)⟩
    · intro k hk ih h0 h1 hkp hv
      refine sg_J_fill_5 ⟨⟨inI_s (by omega) (by omega), inI_s (by omega) (by omega)⟩, fun z => absurd z (by omega), fun _ => ⟨by omega, ih (by omega) _ (kp_tr hkp (kp_xu (by decide))) (fun i a b => ?_)⟩⟩
      rcases (show i = k ∨ i < k by omega) with e | e
      · rw [e, xu_eq]
      · rw [xu_ne (by omega)]; exact hv i a e
  exact sg_J_fill_0 (lp 0 (by omega) (by omega) h (kp_rf _ _) (fun i a b => by omega))
theorem C_take {d : Nat} {p q : Int} {h : xH} {Q : xH → Prop} (hd : 1 ≤ d) (hp : 0 ≤ p ∧ p < 30) (hq1 : -1 ≤ q ∧ q < 30) (hpq : q ≠ p) (h7 : 0 ≤ h 29 p ∧ h 29 p ≤ 1000) (h7q : 0 ≤ q → 0 ≤ h 29 q ∧ h 29 q ≤ 1000)
    (hq : ∀ h', kp [27, 28, 29] h h' → (∀ z, z ≠ p → h' 27 z = h 27 z ∧ h' 28 z = h 28 z ∧ h' 29 z = h 29 z) → h' 27 p = addN (h 27 p) q → h' 28 p = addA (h 28) (h 28 p) q → h' 29 p = addD (h 29) (h 29 p) q → Q h') : cV wdC d mX2_take [.inr (.inr 26), .inl p, .inl q] h Q := by
  refine sg_X2_take_0 hd ⟨inI_s (by omega) (by omega), fun z => ⟨hp, C_pinBit rfl (by omega) ⟨hp, hp, C_pinBit rfl (by omega) ⟨by omega, hp, hp, by omega, ?_⟩⟩⟩, fun z => hq h (kp_rf _ _) (fun _ _ => ⟨rfl, rfl, rfl⟩) ?_ ?_ ?_⟩
  · have := h7q z
    simp (disch := omega) only [xu_cn]
    refine ⟨⟨inI_s (by omega) (by omega), inI_s (by omega) (by omega)⟩, hp, hq _ (kp_tr (kp_tr (kp_xu (by decide)) (kp_xu (by decide))) (kp_xu (by decide))) ?_ ?_ ?_ ?_⟩
    · intro y hy
      simp (disch := omega) only [xu_cn, xu_ne]
      simp
    · simp (disch := omega) only [xu_cn, xu_eq]
      unfold addN; rw [if_neg (by omega), Int.one_mul, pow_nat]
    · simp (disch := omega) only [xu_cn, xu_eq]
      unfold addA; rw [if_neg (by omega), Int.one_mul, pow_nat]
    · simp (disch := omega) only [xu_eq]
      unfold addD; rw [if_neg (by omega)]
  · unfold addN; rw [if_pos z]
  · unfold addA; rw [if_pos z]
  · unfold addD; rw [if_pos z]
/-- of the pins b 0 .. b (i - 1), taken in this order, the last that shares slot k; -1 -/
def lastOf (s b : Int → Int) (i : Int) (k v : Int) : Prop := (v = -1 ∧ ∀ j, 0 ≤ j → j < i → ¬ shr s (b j) k) ∨ ∃ j, 0 ≤ j ∧ j < i ∧ v = b j ∧ shr s (b j) k ∧ ∀ j', j < j' → j' < i → ¬ shr s (b j') k
theorem last_ah {s b : Int → Int} {i k v : Int} (hW : WFp s) (hS : SB s b (s 1)) (hi : 0 ≤ i ∧ i < s 1) (hk : k = s (35 + b i) ∨ k = s (35 + b i) + 1) (hv : lastOf s b i k v) : v = ah s (b i) k := by
  obtain ⟨w1, w2, w3, w4, w5, w6, w7, w8⟩ := id hW
  obtain ⟨s1, s2, s3⟩ := id hS
  have bi := s1 i hi.1 hi.2
  have a := ah_ok (s := s) (by omega) (b i) k
  -- a pin that shares k and comes before has a lesser row
  have less : ∀ j, 0 ≤ j → j < i → shr s (b j) k → s (5 + b j) < s (5 + b i) := by
    intro j j0 j1 hs
    have o := s2 j i j0 j1 hi.2
    have bj := s1 j j0 (by omega)
    rcases (show s (5 + b j) < s (5 + b i) ∨ s (5 + b j) = s (5 + b i) by omega) with e | e
    · exact e
    · have := w5 (b j) (b i) bj.1 bj.2 bi.1 bi.2 o.2 e
      unfold shr at hs
      omega
  have before : ∀ q, 0 ≤ q → q < s 1 → s (5 + q) < s (5 + b i) → ∃ j, 0 ≤ j ∧ j < i ∧ b j = q := by
    intro q q0 q1 hr
    obtain ⟨j, j0, j1, e⟩ := s3 q q0 q1
    refine ⟨j, j0, ?_, e⟩
    rcases (show j < i ∨ j = i ∨ i < j by omega) with z | z | z
    · exact z
    · rw [z] at e; rw [e] at hr; omega
    · have := (s2 i j hi.1 z j1).1
      rw [e] at this; omega
  rcases hv with ⟨e, hn⟩ | ⟨j, j0, j1, e, hs, hm⟩
  · rcases (show ah s (b i) k = -1 ∨ 0 ≤ ah s (b i) k by omega) with z | z
    · omega
    · have c := a.2.1 z
      obtain ⟨j, j0, j1, e2⟩ := before _ z a.1.2 c.1
      exact absurd (by rw [e2]; exact c.2) (hn j j0 j1)
  · have bj := s1 j j0 (by omega)
    have hr := less j j0 j1 hs
    have c := a.2.2 (b j) bj.1 bj.2 hr hs
    have c2 := a.2.1 c.1
    obtain ⟨j2, j20, j21, e2⟩ := before _ c.1 a.1.2 c2.1
    have hs2 : shr s (b j2) k := by rw [e2]; exact c2.2
    have : j2 ≤ j := by
      rcases (show j2 ≤ j ∨ j < j2 by omega) with z | z
      · exact z
      · exact absurd hs2 (hm j2 z j21)
    rcases (show j2 = j ∨ j2 < j by omega) with z | z
    · rw [e, ← e2, z]
    · have o := s2 j2 j j20 z (by omega)
      have b2 := s1 j2 j20 (by omega)
      rw [← e2] at c
      have er : s (5 + b j2) = s (5 + b j) := by omega
      have := w5 (b j2) (b j) b2.1 b2.2 bj.1 bj.2 o.2 er
      unfold shr at hs hs2
      omega
