/-! bits: sets as natural numbers -/
theorem xu_eq {h : xH} {c : Nat} {i v : Int} : xu h c i v c i = v := by simp [xu]
theorem xu_ne {h : xH} {c : Nat} {i v i' : Int} (hn : i' ≠ i) : xu h c i v c i' = h c i' := by simp [xu, hn]
theorem xu_cn {h : xH} {c c' : Nat} {i v i' : Int} (hn : c' ≠ c) : xu h c i v c' i' = h c' i' := by simp [xu, hn]
theorem bv32_nat (a : Nat) : BitVec.ofInt 32 (a : Int) = BitVec.ofNat 32 a := by
  apply BitVec.eq_of_toNat_eq
  rw [BitVec.toNat_ofInt, BitVec.toNat_ofNat]
  omega
theorem bv64_nat (a : Nat) : BitVec.ofInt 64 (a : Int) = BitVec.ofNat 64 a := by
  apply BitVec.eq_of_toNat_eq
  rw [BitVec.toNat_ofInt, BitVec.toNat_ofNat]
  omega
theorem bv32_toInt {n : Nat} (h : n < 2147483648) : (BitVec.ofNat 32 n).toInt = (n : Int) := by
  rw [BitVec.toInt_eq_toNat_bmod, BitVec.toNat_ofNat, Nat.mod_eq_of_lt (by omega)]
  apply Int.bmod_eq_of_le <;> omega
theorem bv64_toInt {n : Nat} (h : n < 9223372036854775808) : (BitVec.ofNat 64 n).toInt = (n : Int) := by
  rw [BitVec.toInt_eq_toNat_bmod, BitVec.toNat_ofNat, Nat.mod_eq_of_lt (by omega)]
  apply Int.bmod_eq_of_le <;> omega
theorem xandI_nat {a b : Nat} (ha : a < 2147483648) : xandI a b = ((a &&& b : Nat) : Int) := by
  unfold xandI
  rw [bv32_nat, bv32_nat, ← BitVec.ofNat_and]
  exact bv32_toInt (Nat.lt_of_le_of_lt Nat.and_le_left ha)
theorem xorI_nat {a b : Nat} (ha : a < 2147483648) (hb : b < 2147483648) : xorI a b = ((a ||| b : Nat) : Int) := by
  unfold xorI
  rw [bv32_nat, bv32_nat, ← BitVec.ofNat_or]
  exact bv32_toInt (Nat.or_lt_two_pow (n := 31) ha hb)
theorem xxorI_nat {a b : Nat} (ha : a < 2147483648) (hb : b < 2147483648) : xxorI a b = ((a ^^^ b : Nat) : Int) := by
  unfold xxorI
  rw [bv32_nat, bv32_nat, ← BitVec.ofNat_xor]
  exact bv32_toInt (Nat.xor_lt_two_pow (n := 31) ha hb)
theorem xandL_nat {a b : Nat} (ha : a < 9223372036854775808) : xandL a b = ((a &&& b : Nat) : Int) := by
  unfold xandL
  rw [bv64_nat, bv64_nat, ← BitVec.ofNat_and]
  exact bv64_toInt (Nat.lt_of_le_of_lt Nat.and_le_left ha)
theorem xorL_nat {a b : Nat} (ha : a < 9223372036854775808) (hb : b < 9223372036854775808) : xorL a b = ((a ||| b : Nat) : Int) := by
  unfold xorL
  rw [bv64_nat, bv64_nat, ← BitVec.ofNat_or]
  exact bv64_toInt (Nat.or_lt_two_pow (n := 63) ha hb)
/-- a without what is in b -/
def wo (a b : Nat) : Nat := a ^^^ (a &&& b)
theorem wo_bit (a b i : Nat) : (wo a b).testBit i = (a.testBit i && !b.testBit i) := by
  unfold wo
  rw [Nat.testBit_xor, Nat.testBit_and]
  cases a.testBit i <;> cases b.testBit i <;> rfl
theorem wo_lt {a b n : Nat} (h : a < 2 ^ n) : wo a b < 2 ^ n := Nat.xor_lt_two_pow h (Nat.lt_of_le_of_lt Nat.and_le_left h)
theorem bv_wo {w : Nat} (A B : BitVec w) : A &&& (B ^^^ BitVec.allOnes w) = A ^^^ (A &&& B) := by
  apply BitVec.eq_of_getElem_eq
  intro i hi
  simp only [BitVec.getElem_and, BitVec.getElem_xor, BitVec.getElem_allOnes]
  cases A[i] <;> cases B[i] <;> rfl
theorem xandI_wo {a b : Nat} (ha : a < 2147483648) (hb : b < 2147483648) : xandI a (xxorI b (-1)) = ((wo a b : Nat) : Int) := by
  unfold xandI xxorI
  rw [BitVec.ofInt_toInt, show BitVec.ofInt 32 (-1) = BitVec.allOnes 32 from by decide, bv_wo, bv32_nat, bv32_nat, ← BitVec.ofNat_and, ← BitVec.ofNat_xor]
  exact bv32_toInt (wo_lt (n := 31) ha)
theorem xandL_wo {a b : Nat} (ha : a < 9223372036854775808) (hb : b < 9223372036854775808) : xandL a (xxorL b (-1)) = ((wo a b : Nat) : Int) := by
  unfold xandL xxorL
  rw [BitVec.ofInt_toInt, show BitVec.ofInt 64 (-1) = BitVec.allOnes 64 from by decide, bv_wo, bv64_nat, bv64_nat, ← BitVec.ofNat_and, ← BitVec.ofNat_xor]
  exact bv64_toInt (wo_lt (n := 63) ha)
theorem pow_nat (k : Nat) : ((2 : Int) ^ k) = ((2 ^ k : Nat) : Int) := by simp
theorem pow_i {k : Int} (h0 : 0 ≤ k) : ((2 : Int) ^ k.toNat) = ((2 ^ k.toNat : Nat) : Int) := by simp
theorem div_pow_nat (a k : Nat) : (a : Int) / 2 ^ k = ((a / 2 ^ k : Nat) : Int) := by simp
theorem and_one_nat (a : Nat) : a &&& 1 = a % 2 := Nat.and_one_is_mod a
/-- bit k of a, as a number -/
def bti (a k : Nat) : Int := if a.testBit k then 1 else 0
theorem bti_eq (a k : Nat) : ((a / 2 ^ k % 2 : Nat) : Int) = bti a k := by
  unfold bti
  rw [Nat.testBit_eq_decide_div_mod_eq]
  have : a / 2 ^ k % 2 = 0 ∨ a / 2 ^ k % 2 = 1 := by omega
  rcases this with h | h <;> simp [h]
theorem bti_01 (a k : Nat) : bti a k = 0 ∨ bti a k = 1 := by
  unfold bti
  split <;> simp
/-- (a >> k) & 1 -/
theorem x_bitI {a : Nat} (ha : a < 2147483648) {k : Int} (h0 : 0 ≤ k) : xandI ((a : Int) / 2 ^ (Int.toNat k)) 1 = bti a k.toNat := by
  rw [div_pow_nat, show (1 : Int) = ((1 : Nat) : Int) from rfl, xandI_nat (Nat.lt_of_le_of_lt (Nat.div_le_self _ _) ha), and_one_nat, bti_eq]
theorem x_bitL {a : Nat} (ha : a < 9223372036854775808) {k : Int} (h0 : 0 ≤ k) : xandL ((a : Int) / 2 ^ (Int.toNat k)) 1 = bti a k.toNat := by
  rw [div_pow_nat, show (1 : Int) = ((1 : Nat) : Int) from rfl, xandL_nat (Nat.lt_of_le_of_lt (Nat.div_le_self _ _) ha), and_one_nat, bti_eq]
theorem two_pow_lt {k n : Nat} (h : k < n) : 2 ^ k < 2 ^ n := Nat.pow_lt_pow_right (by omega) h
theorem two_pow_le {k n : Nat} (h : k ≤ n) : 2 ^ k ≤ 2 ^ n := Nat.pow_le_pow_right (by omega) h
theorem or_bit (a k i : Nat) : (a ||| 2 ^ k).testBit i = (a.testBit i || decide (i = k)) := by
  rw [Nat.testBit_or, Nat.testBit_two_pow]
  congr 1
  simp [eq_comm]
theorem and_pow_eq0 (a k : Nat) : a &&& 2 ^ k = 0 ↔ a.testBit k = false := by
  constructor
  · intro h
    have := congrArg (fun n => Nat.testBit n k) h
    simpa [Nat.testBit_and, Nat.testBit_two_pow] using this
  · intro h
    apply Nat.eq_of_testBit_eq
    intro i
    rw [Nat.testBit_and, Nat.testBit_two_pow, Nat.zero_testBit]
    by_cases hk : k = i
    · subst hk; simp [h]
    · simp [hk]
theorem wo_eq0 (a b : Nat) : wo a b = 0 ↔ ∀ i, a.testBit i = true → b.testBit i = true := by
  constructor
  · intro h i hi
    have := congrArg (fun n => Nat.testBit n i) h
    simp only [wo_bit, hi, Nat.zero_testBit] at this
    simpa using this
  · intro h
    apply Nat.eq_of_testBit_eq
    intro i
    rw [wo_bit, Nat.zero_testBit]
    cases ha : a.testBit i with
    | false => rfl
    | true => simp [h i ha]
theorem bit_lt {a n i : Nat} (h : a < 2 ^ n) (hi : a.testBit i = true) : i < n := by
  rcases Nat.lt_or_ge i n with q | q
  · exact q
  · rw [Nat.testBit_lt_two_pow (Nat.lt_of_lt_of_le h (two_pow_le q))] at hi
    cases hi
theorem lt_of_bits {a n : Nat} (h : ∀ i, a.testBit i = true → i < n) : a < 2 ^ n := by
  apply Nat.lt_pow_two_of_testBit
  intro i hi
  cases hb : a.testBit i with
  | false => rfl
  | true => exact absurd (h i hb) (by omega)
theorem mod16_nat (a : Nat) : a &&& 15 = a % 16 := Nat.and_two_pow_sub_one_eq_mod a 4
theorem or16_nat {r k : Nat} (hk : k < 16) : r * 16 ||| k = r * 16 + k := by
  have h := Nat.two_pow_add_eq_or_of_lt (i := 4) (b := k) hk r
  have e : 2 ^ 4 * r = r * 16 := by omega
  rw [e] at h
  exact h.symm
/-- cells outside the list stay -/
def kp (l : List Nat) (h h' : xH) : Prop := ∀ c, c ∉ l → h' c = h c
theorem kp_rf (l : List Nat) (h : xH) : kp l h h := fun _ _ => rfl
theorem kp_tr {l : List Nat} {h h1 h2 : xH} (a : kp l h h1) (b : kp l h1 h2) : kp l h h2 := fun c hc => (b c hc).trans (a c hc)
theorem kp_mono {l l' : List Nat} {h h1 : xH} (a : kp l h h1) (hl : ∀ c, c ∈ l → c ∈ l') : kp l' h h1 := fun c hc => a c (fun z => hc (hl c z))
theorem kp_xu {l : List Nat} {h : xH} {c : Nat} {i v : Int} (hc : c ∈ l) : kp l h (xu h c i v) := fun c' hc' => xu_oth (fun e => hc' (e ▸ hc))
/-- a number of a truth -/
def b2i (b : Bool) : Int := if b then 1 else 0
theorem b2i_01 (b : Bool) : b2i b = 0 ∨ b2i b = 1 := by cases b <;> simp [b2i]
theorem b2i_t : b2i true = 1 := rfl
theorem b2i_f : b2i false = 0 := rfl
/-- a loop that counts up: from its end backwards -/
theorem dn {P : Int → Prop} {N : Int} (hN : P N) (hs : ∀ i, i < N → P (i + 1) → P i) : ∀ i, i ≤ N → P i := by
  intro i hi
  obtain ⟨n, hn⟩ : ∃ n : Nat, i + n = N := ⟨(N - i).toNat, by omega⟩
  induction n generalizing i with
  | zero => have : i = N := by omega
            subst this; exact hN
  | succ n ih => exact hs i (by omega) (ih (i + 1) (by omega) (by omega))
