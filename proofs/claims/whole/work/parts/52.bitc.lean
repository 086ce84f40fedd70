/-! how many bits -/
def bcA (x : Int) : Int := x - (xandI (x / 2 ^ (Int.toNat 1)) 1431655765)
def bcB (x : Int) : Int := (xandI x 858993459) + (xandI (x / 2 ^ (Int.toNat 2)) 858993459)
def bcC (x : Int) : Int := xandI (x + (x / 2 ^ (Int.toNat 4))) 252645135
def bcD (x : Int) : Int := x + (x / 2 ^ (Int.toNat 8))
def bcE (x : Int) : Int := xandI (x + (x / 2 ^ (Int.toNat 16))) 63
def bcR (x : Int) : Bool := decide (0 ≤ x) && decide (x < 2147483648)
theorem bcR_in {x : Int} (h : bcR x = true) : 0 ≤ x ∧ inI x := by
  unfold bcR at h
  rw [Bool.and_eq_true] at h
  have a := of_decide_eq_true h.1
  have b := of_decide_eq_true h.2
  unfold inI
  omega
def pcs (S : Nat) : Nat → Int
  | 0 => 0
  | k + 1 => pcs S k + bti S k
def bcK (x : Nat) : Bool := bcR (bcA x) && (bcR (bcB (bcA x)) && (bcR (bcC (bcB (bcA x))) && (bcR (bcD (bcC (bcB (bcA x)))) && decide (bcE (bcD (bcC (bcB (bcA x)))) = pcs x 12))))
theorem bc_all : ∀ a : Nat, a < 64 → ∀ b : Nat, b < 64 → bcK (64 * a + b) = true := by decide +kernel
theorem C_bitCount {wd : List xE} {d : Nat} {x : Nat} {h : xH} {Q : Int → xH → Prop} (hx : x < 4096) (hq : Q (pcs x 12) h) : cI wd d mJ_bitCount [.inl (x : Int)] h Q := by
  have k := bc_all (x / 64) (by omega) (x % 64) (by omega)
  rw [show 64 * (x / 64) + x % 64 = x by omega] at k
  unfold bcK at k
  rw [Bool.and_eq_true, Bool.and_eq_true, Bool.and_eq_true, Bool.and_eq_true] at k
  refine sg_J_bitCount_0 ⟨⟨by omega, inI_s (by omega) (by omega)⟩, bcR_in k.1, bcR_in k.2.1, bcR_in k.2.2.1, bcR_in k.2.2.2.1, ?_⟩
  have e := of_decide_eq_true k.2.2.2.2
  unfold bcE bcD bcC bcB bcA at e
  rw [e]
  exact hq
theorem pcs_or (S o : Nat) : ∀ k : Nat, pcs (S ||| 2 ^ o) k ≤ pcs S k + 1 ∧ (k ≤ o → pcs (S ||| 2 ^ o) k = pcs S k) := by
  intro k
  induction k with
  | zero => exact ⟨by unfold pcs; omega, fun _ => rfl⟩
  | succ k ih =>
    unfold pcs
    by_cases z : k = o
    · have h1 := ih.2 (by omega)
      have h2 := bti_01 (S ||| 2 ^ o) k
      have h3 := bti_01 S k
      exact ⟨by omega, fun _ => by omega⟩
    · have e : bti (S ||| 2 ^ o) k = bti S k := by
        unfold bti; rw [or_bit, decide_eq_false z, Bool.or_false]
      rw [e]
      exact ⟨by omega, fun y => by rw [ih.2 (by omega)]⟩
theorem pcs_0 : ∀ k : Nat, pcs 0 k = 0 := by
  intro k
  induction k with
  | zero => rfl
  | succ k ih =>
    unfold pcs
    rw [ih]
    unfold bti
    rw [Nat.zero_testBit]
    rfl
