/-! the reference: small methods -/
theorem M_isIn {d : Nat} {x a b : Int} {h : xH} {T F : xH → Prop} (h1 : inL x) (h2 : inL a) (h3 : inL b) (ht : a ≤ x ∧ x ≤ b → T h) (hf : ¬ (a ≤ x ∧ x ≤ b) → F h) : cB wdM d mX8_isIn [.inr (.inl x), .inr (.inl a), .inr (.inl b)] h T F := by
  refine sg_X8_isIn_0 ⟨⟨h1, h2⟩, fun q => Or.inr ⟨rfl, hf (by omega)⟩, fun q => ⟨⟨h1, h3⟩, fun q2 => Or.inr ⟨rfl, hf (by omega)⟩, fun q2 => Or.inl ⟨rfl, ht ⟨q, q2⟩⟩⟩⟩
theorem M_isInI {d : Nat} {x a b : Int} {h : xH} {Q : Int → xH → Prop} (h1 : inL x) (h2 : inL a) (h3 : inL b) (hq : Q (b2i (decide (a ≤ x ∧ x ≤ b))) h) : cI wdM d mX8_isIn [.inr (.inl x), .inr (.inl a), .inr (.inl b)] h Q := by
  refine sg_X8_isIn_0 ⟨⟨h1, h2⟩, fun q => ?_, fun q => ⟨⟨h1, h3⟩, fun q2 => ?_, fun q2 => ?_⟩⟩
  · rwa [decide_eq_false (by omega)] at hq
  · rwa [decide_eq_false (by omega)] at hq
  · rwa [decide_eq_true ⟨q, q2⟩] at hq
theorem inL_I {x : Int} (h : inI x) : inL x := by unfold inI at h; unfold inL; omega
theorem inI_s {x : Int} (h : -100000000 ≤ x) (h2 : x ≤ 100000000) : inI x := by unfold inI; omega
theorem inL_s {x : Int} (h : -100000000 ≤ x) (h2 : x ≤ 100000000) : inL x := by unfold inL; omega
theorem M_isPin {d : Nat} {p : Int} {h : xH} {T F : xH → Prop} (hd : 1 ≤ d) (hp : inI p) (hn : 0 ≤ h 1 1 ∧ h 1 1 ≤ 30) (ht : 0 ≤ p ∧ p < h 1 1 → T h) (hf : ¬ (0 ≤ p ∧ p < h 1 1) → F h) : cB wdM d mX8_isPin [.inr (.inr 0), .inl p] h T F := by
  refine sg_X8_isPin_0 hd ⟨hp, inI_s (by omega) (by omega), ?_⟩
  refine M_isInI (inL_I hp) (inL_s (by omega) (by omega)) (inL_s (by omega) (by omega)) ⟨b2i_01 _, ?_⟩
  by_cases q : 0 ≤ p ∧ p ≤ h 1 1 - 1
  · rw [decide_eq_true q]; exact Or.inl ⟨rfl, ht (by omega)⟩
  · rw [decide_eq_false q]; exact Or.inr ⟨rfl, hf (by omega)⟩
theorem M_isSlot {d : Nat} {p : Int} {h : xH} {T F : xH → Prop} (hd : 1 ≤ d) (hp : inI p) (hn : 0 ≤ h 1 0 ∧ h 1 0 ≤ 30) (ht : 0 ≤ p ∧ p < h 1 0 → T h) (hf : ¬ (0 ≤ p ∧ p < h 1 0) → F h) : cB wdM d mX8_isSlot [.inr (.inr 0), .inl p] h T F := by
  refine sg_X8_isSlot_0 hd ⟨hp, inI_s (by omega) (by omega), ?_⟩
  refine M_isInI (inL_I hp) (inL_s (by omega) (by omega)) (inL_s (by omega) (by omega)) ⟨b2i_01 _, ?_⟩
  by_cases q : 0 ≤ p ∧ p ≤ h 1 0 - 1
  · rw [decide_eq_true q]; exact Or.inl ⟨rfl, ht (by omega)⟩
  · rw [decide_eq_false q]; exact Or.inr ⟨rfl, hf (by omega)⟩
theorem M_isThread {d : Nat} {p : Int} {h : xH} {T F : xH → Prop} (hd : 1 ≤ d) (hp : inI p) (hn : 0 ≤ h 1 0 ∧ h 1 0 ≤ 30) (ht : 0 ≤ p ∧ p < 2 * h 1 0 → T h) (hf : ¬ (0 ≤ p ∧ p < 2 * h 1 0) → F h) : cB wdM d mX8_isThread [.inr (.inr 0), .inl p] h T F := by
  refine sg_X8_isThread_0 hd ⟨hp, inI_s (by omega) (by omega), ?_⟩
  refine M_isInI (inL_I hp) (inL_s (by omega) (by omega)) (inL_s (by omega) (by omega)) ⟨b2i_01 _, ?_⟩
  by_cases q : 0 ≤ p ∧ p ≤ 2 * h 1 0 - 1
  · rw [decide_eq_true q]; exact Or.inl ⟨rfl, ht (by omega)⟩
  · rw [decide_eq_false q]; exact Or.inr ⟨rfl, hf (by omega)⟩
theorem M_isList {d : Nat} {p : Int} {h : xH} {T F : xH → Prop} (hd : 1 ≤ d) (hp : inI p) (ht : 0 ≤ p ∧ p < 4 → T h) (hf : ¬ (0 ≤ p ∧ p < 4) → F h) : cB wdM d mX8_isList [.inl p] h T F := by
  refine sg_X8_isList_0 hd ⟨hp, ?_⟩
  refine M_isInI (inL_I hp) (inL_s (by omega) (by omega)) (inL_s (by omega) (by omega)) ⟨b2i_01 _, ?_⟩
  by_cases q : 0 ≤ p ∧ p ≤ 3
  · rw [decide_eq_true q]; exact Or.inl ⟨rfl, ht (by omega)⟩
  · rw [decide_eq_false q]; exact Or.inr ⟨rfl, hf (by omega)⟩
/-- a pin shares a slot -/
def shr (s : Int → Int) (p k : Int) : Prop := s (35 + p) = k ∨ s (35 + p) + 1 = k
theorem M_shares {d : Nat} {p k : Int} {h : xH} {T F : xH → Prop} (hp : 0 ≤ p ∧ p < 30) (hs : 0 ≤ h 1 (35 + p) ∧ h 1 (35 + p) ≤ 12) (hk : inI k) (ht : shr (h 1) p k → T h) (hf : ¬ shr (h 1) p k → F h) : cB wdM d mX8_shares [.inr (.inr 0), .inl p, .inl k] h T F := by
  refine sg_X8_shares_0 ⟨by omega, ⟨inI_s (by omega) (by omega), hk⟩, fun q => Or.inl ⟨rfl, ht (Or.inl q)⟩, fun q => ⟨by omega, ⟨inI_s (by omega) (by omega), hk⟩, fun q2 => Or.inr ⟨rfl, hf ?_⟩, fun q2 => Or.inl ⟨rfl, ht (Or.inr q2)⟩⟩⟩
  rintro (z | z) <;> omega
/-- parity of the turns of a slot, up to a row, among the first t -/
def tpar (s : Int → Int) (k r : Int) : Nat → Bool
  | 0 => false
  | t + 1 => (tpar s k r t).xor (decide (s (137 + t) / 100 = k ∧ s (137 + t) % 100 ≤ r))
def isF (s : Int → Int) (k r : Int) : Bool := (decide (s (125 + k) = 1)).xor (tpar s k r (s 2).toNat)
theorem xxor_b0 (b : Bool) : xxorI (b2i b) 0 = b2i b := by cases b <;> decide
theorem xxor_b1 (b : Bool) : xxorI (b2i b) 1 = b2i (!b) := by cases b <;> decide
theorem xandI_b (a b : Bool) : xandI (b2i a) (b2i b) = b2i (a && b) := by cases a <;> cases b <;> decide
theorem b2i_in (b : Bool) : inI (b2i b) := by cases b <;> (unfold b2i inI; decide)
theorem M_isFilledI {d : Nat} {k r : Int} {h : xH} {Q : Int → xH → Prop} (hW : WFp (h 1)) (hk : 0 ≤ k ∧ k < 12) (hr : inI r) (hq : Q (b2i (isF (h 1) k r)) h) : cI wdM d mX8_isFilled [.inr (.inr 0), .inl k, .inl r] h Q := by
  obtain ⟨w1, w2, w3, w4, w5, w6, w7, w8⟩ := hW
  have hlp : ∀ t : Int, t ≤ h 1 2 → 0 ≤ t → gI wdM d mX8_isFilled 22 [some (.inr (.inr 0)), some (.inl k), some (.inl r), some (.inl (b2i ((decide (h 1 (125 + k) = 1)).xor (tpar (h 1) k r t.toNat)))), some (.inl t)] h Q := by
    refine dn ?_ ?_
    · intro h0
      refine sg_X8_isFilled_22 ⟨⟨inI_s (by omega) (by omega), inI_s (by omega) (by omega)⟩, fun _ => ⟨b2i_01 _, hq⟩, fun z => absurd z (by omega)⟩
    · intro t ht ih h0
      have a1 := w7 t h0 ht
      have e : (t + 1).toNat = t.toNat + 1 := by omega
      have et : ((t.toNat : Nat) : Int) = t := by omega
      have ih := ih (by omega)
      rw [e, tpar, et] at ih
      have i1 : inI (h 1 (137 + t)) := inI_s (by omega) (by omega)
      refine sg_X8_isFilled_22 ⟨⟨inI_s (by omega) (by omega), inI_s (by omega) (by omega)⟩, fun z => absurd z (by omega), fun _ => ⟨by omega, ⟨a1.1, i1⟩, ⟨inI_s (by omega) (by omega), inI_s (by omega) (by omega)⟩, fun q => ?_, fun q => ⟨by omega, ⟨a1.1, i1⟩, ⟨inI_s (by omega) (by omega), hr⟩, fun q2 => ?_, fun q2 => ?_⟩⟩⟩
      · rw [show decide (h 1 (137 + t) / 100 = k ∧ h 1 (137 + t) % 100 ≤ r) = false from decide_eq_false (fun z => q z.1), Bool.xor_false] at ih
        rw [xxor_b0]; exact ih
      · rw [show decide (h 1 (137 + t) / 100 = k ∧ h 1 (137 + t) % 100 ≤ r) = false from decide_eq_false (fun z => by omega), Bool.xor_false] at ih
        rw [xxor_b0]; exact ih
      · rw [show decide (h 1 (137 + t) / 100 = k ∧ h 1 (137 + t) % 100 ≤ r) = true from decide_eq_true ⟨q, q2⟩, Bool.xor_true] at ih
        rw [xxor_b1]
        cases hx : decide (h 1 (125 + k) = 1) <;> rw [hx] at ih <;> cases hy : tpar (h 1) k r t.toNat <;> rw [hy] at ih <;> exact ih
  have h1 := hlp 0 (by omega) (by omega)
  have b1 := w6 k hk.1 hk.2
  refine sg_X8_isFilled_0 ⟨by omega, inI_s (by omega) (by omega), fun q => ?_, fun q => ?_⟩
  · rw [decide_eq_false q] at h1; exact h1
  · rw [decide_eq_true q] at h1; exact h1
theorem M_isFilled {d : Nat} {k r : Int} {h : xH} {T F : xH → Prop} (hW : WFp (h 1)) (hk : 0 ≤ k ∧ k < 12) (hr : inI r) (ht : isF (h 1) k r = true → T h) (hf : isF (h 1) k r = false → F h) : cB wdM d mX8_isFilled [.inr (.inr 0), .inl k, .inl r] h T F :=
  cB_of (b := isF (h 1) k r) (fun _ hq => M_isFilledI hW hk hr hq) ht hf
def lks (s : Int → Int) (p : Int) : Bool := !(isF s (s (35 + p)) (s (5 + p)) && isF s (s (35 + p) + 1) (s (5 + p)))
theorem M_lacksI {d : Nat} {p : Int} {h : xH} {Q : Int → xH → Prop} (hd : 1 ≤ d) (hW : WFp (h 1)) (hp : 0 ≤ p ∧ p < h 1 1) (hq : Q (b2i (lks (h 1) p)) h) : cI wdM d mX8_lacks [.inr (.inr 0), .inl p] h Q := by
  obtain ⟨w1, w2, w3, w4, w5, w6, w7, w8⟩ := id hW
  have a1 := w4 p hp.1 hp.2
  unfold lks at hq
  refine sg_X8_lacks_0 hd ⟨by omega, by omega, M_isFilled hW (by omega) (inI_s (by omega) (by omega)) (fun b => ⟨by omega, by omega, M_isFilled hW (by omega) (inI_s (by omega) (by omega)) (fun b2 => ?_) (fun b2 => ?_)⟩) (fun b => ?_)⟩
  · rw [b, b2] at hq; exact hq
  · rw [b, b2] at hq; exact hq
  · rw [b] at hq; exact hq
theorem M_lacks {d : Nat} {p : Int} {h : xH} {T F : xH → Prop} (hd : 1 ≤ d) (hW : WFp (h 1)) (hp : 0 ≤ p ∧ p < h 1 1) (ht : lks (h 1) p = true → T h) (hf : lks (h 1) p = false → F h) : cB wdM d mX8_lacks [.inr (.inr 0), .inl p] h T F :=
  cB_of (b := lks (h 1) p) (fun _ hq => M_lacksI hd hW hp hq) ht hf
/-- among the first n pins is one with that row, slot, stitch; among the first n turns that code -/
theorem M_hasPin {d : Nat} {r k st : Int} {h : xH} {Q : Int → xH → Prop} (hW : WFp (h 1)) (hr : inI r) (hk : inI k) (hs : inI st) (hq : ∀ b : Bool, (b = true ↔ ∃ q, 0 ≤ q ∧ q < h 1 1 ∧ h 1 (5 + q) = r ∧ h 1 (35 + q) = k ∧ h 1 (65 + q) = st) → Q (b2i b) h) : cI wdM d mX8_hasPin [.inr (.inr 0), .inl r, .inl k, .inl st] h Q := by
  obtain ⟨w1, w2, w3, w4, w5, w6, w7, w8⟩ := id hW
  have hlp : ∀ t : Int, t ≤ h 1 1 → 0 ≤ t → (∀ q, 0 ≤ q → q < t → ¬ (h 1 (5 + q) = r ∧ h 1 (35 + q) = k ∧ h 1 (65 + q) = st)) → gI wdM d mX8_hasPin 3 [some (.inr (.inr 0)), some (.inl r), some (.inl k), some (.inl st), some (.inl t)] h Q := by
    refine dn ?_ ?_
    · intro h0 hn
      refine sg_X8_hasPin_3 ⟨⟨inI_s (by omega) (by omega), inI_s (by omega) (by omega)⟩, fun _ => hq false ⟨fun z => (by cases z), fun ⟨q, a, b, c⟩ => absurd c (hn q a b)⟩, fun z => absurd z (by omega)⟩
    · intro t ht ih h0 hn
      have a1 := w4 t h0 ht
      have nx : ¬ (h 1 (5 + t) = r ∧ h 1 (35 + t) = k ∧ h 1 (65 + t) = st) → gI wdM d mX8_hasPin 3 [some (.inr (.inr 0)), some (.inl r), some (.inl k), some (.inl st), some (.inl (t + 1))] h Q := fun z => ih (by omega) (fun q b c => by
        rcases (show q < t ∨ q = t by omega) with e | e
        · exact hn q b e
        · rw [e]; exact z)
      refine sg_X8_hasPin_3 ⟨⟨inI_s (by omega) (by omega), inI_s (by omega) (by omega)⟩, fun z => absurd z (by omega), fun _ => ⟨by omega, ⟨inI_s (by omega) (by omega), hr⟩, fun q => nx (fun z => q z.1), fun q => ⟨by omega, ⟨inI_s (by omega) (by omega), hk⟩, fun q2 => nx (fun z => q2 z.2.1), fun q2 => ⟨by omega, ⟨inI_s (by omega) (by omega), hs⟩, fun q3 => nx (fun z => q3 z.2.2), fun q3 => ?_⟩⟩⟩⟩
      exact hq true ⟨fun _ => ⟨t, h0, ht, q, q2, q3⟩, fun _ => rfl⟩
  exact sg_X8_hasPin_0 (hlp 0 (by omega) (by omega) (fun q a b => by omega))
theorem M_hasTurn {d : Nat} {k : Int} {h : xH} {Q : Int → xH → Prop} (hW : WFp (h 1)) (hk : inI k) (hq : ∀ b : Bool, (b = true ↔ ∃ t, 0 ≤ t ∧ t < h 1 2 ∧ h 1 (137 + t) = k) → Q (b2i b) h) : cI wdM d mX8_hasTurn [.inr (.inr 0), .inl k] h Q := by
  obtain ⟨w1, w2, w3, w4, w5, w6, w7, w8⟩ := id hW
  have hlp : ∀ t : Int, t ≤ h 1 2 → 0 ≤ t → (∀ q, 0 ≤ q → q < t → ¬ h 1 (137 + q) = k) → gI wdM d mX8_hasTurn 2 [some (.inr (.inr 0)), some (.inl k), some (.inl t)] h Q := by
    refine dn ?_ ?_
    · intro h0 hn
      refine sg_X8_hasTurn_2 ⟨⟨inI_s (by omega) (by omega), inI_s (by omega) (by omega)⟩, fun _ => hq false ⟨fun z => (by cases z), fun ⟨q, a, b, c⟩ => absurd c (hn q a b)⟩, fun z => absurd z (by omega)⟩
    · intro t ht ih h0 hn
      have a1 := w7 t h0 ht
      refine sg_X8_hasTurn_2 ⟨⟨inI_s (by omega) (by omega), inI_s (by omega) (by omega)⟩, fun z => absurd z (by omega), fun _ => ⟨by omega, ⟨inI_s (by omega) (by omega), hk⟩, fun q => ?_, fun q => hq true ⟨fun _ => ⟨t, h0, ht, q⟩, fun _ => rfl⟩⟩⟩
      exact ih (by omega) (fun q2 b c => by
        rcases (show q2 < t ∨ q2 = t by omega) with e | e
        · exact hn q2 b e
        · rw [e]; exact q)
  exact sg_X8_hasTurn_0 (hlp 0 (by omega) (by omega) (fun q a b => by omega))
theorem M_becomes {d : Nat} {i v : Int} {h : xH} {Q : Int → xH → Prop} (hi : 0 ≤ i ∧ i < 1705) (hq : Q (h 1 i) (xu h 1 i v)) : cI wdM d mX8_becomes [.inr (.inr 0), .inl i, .inl v] h Q :=
  sg_X8_becomes_0 ⟨hi, hi, hq⟩
