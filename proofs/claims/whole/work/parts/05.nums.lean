/-! the machine's numbers as integers -/
def xandI (a b : Int) : Int := (BitVec.ofInt 32 a &&& BitVec.ofInt 32 b).toInt
def xorI (a b : Int) : Int := (BitVec.ofInt 32 a ||| BitVec.ofInt 32 b).toInt
def xxorI (a b : Int) : Int := (BitVec.ofInt 32 a ^^^ BitVec.ofInt 32 b).toInt
def xandL (a b : Int) : Int := (BitVec.ofInt 64 a &&& BitVec.ofInt 64 b).toInt
def xorL (a b : Int) : Int := (BitVec.ofInt 64 a ||| BitVec.ofInt 64 b).toInt
def xxorL (a b : Int) : Int := (BitVec.ofInt 64 a ^^^ BitVec.ofInt 64 b).toInt
theorem i32_and (a b : Int) : Int32.ofInt a &&& Int32.ofInt b = Int32.ofInt (xandI a b) := by
  apply Int32.toBitVec_inj.mp
  rw [Int32.toBitVec_and, Int32.toBitVec_ofInt, Int32.toBitVec_ofInt, Int32.toBitVec_ofInt, xandI, BitVec.ofInt_toInt]
theorem i32_or (a b : Int) : Int32.ofInt a ||| Int32.ofInt b = Int32.ofInt (xorI a b) := by
  apply Int32.toBitVec_inj.mp
  rw [Int32.toBitVec_or, Int32.toBitVec_ofInt, Int32.toBitVec_ofInt, Int32.toBitVec_ofInt, xorI, BitVec.ofInt_toInt]
theorem i32_xor (a b : Int) : Int32.ofInt a ^^^ Int32.ofInt b = Int32.ofInt (xxorI a b) := by
  apply Int32.toBitVec_inj.mp
  rw [Int32.toBitVec_xor, Int32.toBitVec_ofInt, Int32.toBitVec_ofInt, Int32.toBitVec_ofInt, xxorI, BitVec.ofInt_toInt]
theorem i64_and (a b : Int) : Int64.ofInt a &&& Int64.ofInt b = Int64.ofInt (xandL a b) := by
  apply Int64.toBitVec_inj.mp
  rw [Int64.toBitVec_and, Int64.toBitVec_ofInt, Int64.toBitVec_ofInt, Int64.toBitVec_ofInt, xandL, BitVec.ofInt_toInt]
theorem i64_or (a b : Int) : Int64.ofInt a ||| Int64.ofInt b = Int64.ofInt (xorL a b) := by
  apply Int64.toBitVec_inj.mp
  rw [Int64.toBitVec_or, Int64.toBitVec_ofInt, Int64.toBitVec_ofInt, Int64.toBitVec_ofInt, xorL, BitVec.ofInt_toInt]
theorem i64_xor (a b : Int) : Int64.ofInt a ^^^ Int64.ofInt b = Int64.ofInt (xxorL a b) := by
  apply Int64.toBitVec_inj.mp
  rw [Int64.toBitVec_xor, Int64.toBitVec_ofInt, Int64.toBitVec_ofInt, Int64.toBitVec_ofInt, xxorL, BitVec.ofInt_toInt]
theorem i32_toInt {a : Int} (h : inI a) : (Int32.ofInt a).toInt = a := by
  rw [Int32.toInt_ofInt]
  obtain ⟨h1, h2⟩ := h
  apply Int.bmod_eq_of_le <;> simp [Int32.size] <;> omega
theorem i64_toInt {a : Int} (h : inL a) : (Int64.ofInt a).toInt = a := by
  rw [Int64.toInt_ofInt]
  obtain ⟨h1, h2⟩ := h
  apply Int.bmod_eq_of_le <;> simp [Int64.size] <;> omega
theorem i32_lt {a b : Int} (ha : inI a) (hb : inI b) : Int32.ofInt a < Int32.ofInt b ↔ a < b := by
  rw [Int32.lt_iff_toInt_lt, i32_toInt ha, i32_toInt hb]
theorem i32_le {a b : Int} (ha : inI a) (hb : inI b) : Int32.ofInt a ≤ Int32.ofInt b ↔ a ≤ b := by
  rw [Int32.le_iff_toInt_le, i32_toInt ha, i32_toInt hb]
theorem i32_eq {a b : Int} (ha : inI a) (hb : inI b) : Int32.ofInt a = Int32.ofInt b ↔ a = b := by
  rw [← Int32.toInt_inj, i32_toInt ha, i32_toInt hb]
theorem i64_lt {a b : Int} (ha : inL a) (hb : inL b) : Int64.ofInt a < Int64.ofInt b ↔ a < b := by
  rw [Int64.lt_iff_toInt_lt, i64_toInt ha, i64_toInt hb]
theorem i64_eq {a b : Int} (ha : inL a) (hb : inL b) : Int64.ofInt a = Int64.ofInt b ↔ a = b := by
  rw [← Int64.toInt_inj, i64_toInt ha, i64_toInt hb]
theorem inI_0 : inI 0 := ⟨by decide, by decide⟩
theorem i32_nat {a : Int} (h0 : 0 ≤ a) : Int32.ofInt a = nI a.toNat := by
  obtain ⟨n, rfl⟩ := Int.eq_ofNat_of_zero_le h0
  rfl
theorem i32_clamp {a : Int} (h0 : 0 ≤ a) (h : a < 2147483648) : (Int32.ofInt a).toNatClampNeg = a.toNat := by
  rw [i32_nat h0]
  exact nI_clamp (by omega)
theorem i32_in {a : Int} {n : Nat} (h0 : 0 ≤ a) (h : a < n) (hn : n ≤ 2147483647) : vp_in (Int32.ofInt a) n := by
  rw [i32_nat h0]
  exact vp_in_nI (by omega) (by omega)
theorem sh32 : ∀ j : Nat, j < 32 → ((Int32.ofInt (j : Int) &&& 31).toBitVec.smod 32).toNat = j := by decide +kernel
theorem sh64 : ∀ j : Nat, j < 64 → (((Int32.ofInt (j : Int)).toInt64 &&& 63).toBitVec.smod 64).toNat = j := by decide +kernel
theorem ush32 : ∀ j : Nat, j < 32 → (((Int32.ofInt (j : Int)).toUInt32 &&& Int32.toUInt32 31).toBitVec % 32).toNat = j := by decide +kernel
theorem x_shl_arith (a : Int) (k m : Nat) (hm : m ≠ 0) : ((a % (m : Int)).toNat * 2 ^ k) % m = ((a * 2 ^ k) % (m : Int)).toNat := by
  · have hm' : (m : Int) ≠ 0 := by omega
    have h1 : 0 ≤ a % (m : Int) := Int.emod_nonneg a hm'
    have h2 : 0 ≤ (a * 2 ^ k) % (m : Int) := Int.emod_nonneg _ hm'
    apply Int.ofNat_inj.mp
    rw [Int.toNat_of_nonneg h2]
    simp only [Int.natCast_emod, Int.natCast_mul, Int.toNat_of_nonneg h1, Int.natCast_pow, Int.cast_ofNat_Int]
    rw [Int.mul_emod, Int.emod_emod_of_dvd _ (Int.dvd_refl _), ← Int.mul_emod]
theorem i32_shl (a : Int) {k : Int} (h0 : 0 ≤ k) (h1 : k ≤ 31) : Int32.ofInt a <<< (Int32.ofInt k &&& 31) = Int32.ofInt (a * 2 ^ k.toNat) := by
  obtain ⟨j, rfl⟩ := Int.eq_ofNat_of_zero_le h0
  apply Int32.toBitVec_inj.mp
  apply BitVec.eq_of_toNat_eq
  rw [pk_shl _ _ j (sh32 j (by omega))]
  simp only [Int32.toBitVec_ofInt, BitVec.toNat_ofInt, Int.toNat_natCast]
  exact x_shl_arith a j (2 ^ 32) (by decide)
theorem i64_shl (a : Int) {k : Int} (h0 : 0 ≤ k) (h1 : k ≤ 63) : Int64.ofInt a <<< ((Int32.ofInt k).toInt64 &&& 63) = Int64.ofInt (a * 2 ^ k.toNat) := by
  obtain ⟨j, rfl⟩ := Int.eq_ofNat_of_zero_le h0
  apply Int64.toBitVec_inj.mp
  apply BitVec.eq_of_toNat_eq
  show ((Int64.ofInt a).toBitVec <<< (((Int32.ofInt (j : Int)).toInt64 &&& 63).toBitVec.smod 64).toNat).toNat = _
  rw [sh64 j (by omega), BitVec.toNat_shiftLeft, Nat.shiftLeft_eq]
  simp only [Int64.toBitVec_ofInt, BitVec.toNat_ofInt, Int.toNat_natCast]
  exact x_shl_arith a j (2 ^ 64) (by decide)
theorem x_div_in {a : Int} (k : Nat) : (0 ≤ a → 0 ≤ a / 2 ^ k ∧ a / 2 ^ k ≤ a) ∧ (a < 0 → a ≤ a / 2 ^ k ∧ a / 2 ^ k < 0) := by
  have hp : (0 : Int) < 2 ^ k := Int.pow_pos (by omega)
  refine ⟨fun h => ⟨Int.ediv_nonneg h (by omega), Int.ediv_le_self _ h⟩, fun h => ⟨?_, Int.ediv_neg_of_neg_of_pos h hp⟩⟩
  apply Int.le_ediv_of_mul_le hp
  have : a * 2 ^ k ≤ a * 1 := Int.mul_le_mul_of_nonpos_left (by omega) (by omega)
  omega
theorem i32_shr {a k : Int} (ha : inI a) (h0 : 0 ≤ k) (h1 : k ≤ 31) : Int32.ofInt a >>> (Int32.ofInt k &&& 31) = Int32.ofInt (a / 2 ^ k.toNat) := by
  obtain ⟨j, rfl⟩ := Int.eq_ofNat_of_zero_le h0
  apply Int32.toInt_inj.mp
  have h2 := x_div_in (a := a) j
  have h3 : inI (a / 2 ^ j) := by
    obtain ⟨q1, q2⟩ := ha
    unfold inI
    rcases Int.lt_or_le a 0 with h | h
    · have := h2.2 h; omega
    · have := h2.1 h; omega
  rw [pk_shr _ _ j (sh32 j (by omega)), i32_toInt ha, Int.shiftRight_eq_div_pow]
  simp only [Int.toNat_natCast]
  rw [i32_toInt h3]
  simp
theorem i64_shr {a k : Int} (ha : inL a) (h0 : 0 ≤ k) (h1 : k ≤ 63) : Int64.ofInt a >>> ((Int32.ofInt k).toInt64 &&& 63) = Int64.ofInt (a / 2 ^ k.toNat) := by
  obtain ⟨j, rfl⟩ := Int.eq_ofNat_of_zero_le h0
  apply Int64.toInt_inj.mp
  have h2 := x_div_in (a := a) j
  have h3 : inL (a / 2 ^ j) := by
    obtain ⟨q1, q2⟩ := ha
    unfold inL
    rcases Int.lt_or_le a 0 with h | h
    · have := h2.2 h; omega
    · have := h2.1 h; omega
  show ((Int64.ofInt a).toBitVec.sshiftRight (((Int32.ofInt (j : Int)).toInt64 &&& 63).toBitVec.smod 64).toNat).toInt = _
  rw [sh64 j (by omega), BitVec.toInt_sshiftRight]
  show (Int64.ofInt a).toInt >>> j = _
  rw [i64_toInt ha, Int.shiftRight_eq_div_pow]
  simp only [Int.toNat_natCast]
  rw [i64_toInt h3]
  simp
theorem i32_ushr {a k : Int} (ha : 0 ≤ a) (ha2 : inI a) (h0 : 0 ≤ k) (h1 : k ≤ 31) : ((Int32.ofInt a).toUInt32 >>> ((Int32.ofInt k).toUInt32 &&& Int32.toUInt32 31)).toInt32 = Int32.ofInt (a / 2 ^ k.toNat) := by
  obtain ⟨j, rfl⟩ := Int.eq_ofNat_of_zero_le h0
  obtain ⟨n, rfl⟩ := Int.eq_ofNat_of_zero_le ha
  have := pk_ushrN (n := n) (by unfold inI at ha2; omega) (Int32.ofInt (j : Int)) j (ush32 j (by omega))
  rw [show Int32.ofInt (n : Int) = nI n from rfl, this]
  simp only [Int.toNat_natCast]
  have e : (n : Int) / 2 ^ j = ((n / 2 ^ j : Nat) : Int) := by simp
  rw [e]; rfl
theorem i32_div {a b : Int} (ha : 0 ≤ a) (ha2 : inI a) (hb : 0 < b) (hb2 : inI b) : Int32.ofInt a / Int32.ofInt b = Int32.ofInt (a / b) := by
  obtain ⟨n, rfl⟩ := Int.eq_ofNat_of_zero_le ha
  obtain ⟨j, rfl⟩ := Int.eq_ofNat_of_zero_le (Int.le_of_lt hb)
  unfold inI at ha2 hb2
  have := pk_div (a := n) (d := j) (by omega) (by omega) (by omega)
  exact this
theorem i32_rem {a b : Int} (ha : 0 ≤ a) (ha2 : inI a) (hb : 0 < b) (hb2 : inI b) : Int32.ofInt a - Int32.ofInt a / Int32.ofInt b * Int32.ofInt b = Int32.ofInt (a % b) := by
  obtain ⟨n, rfl⟩ := Int.eq_ofNat_of_zero_le ha
  obtain ⟨j, rfl⟩ := Int.eq_ofNat_of_zero_le (Int.le_of_lt hb)
  unfold inI at ha2 hb2
  have := pk_rem (a := n) (d := j) (by omega) (by omega) (by omega)
  exact this
theorem i32_ne0 {b : Int} (hb : 0 < b) (hb2 : inI b) : ¬ Int32.ofInt b = 0 := by
  intro h
  have := (i32_eq hb2 inI_0).mp h
  omega
theorem i32_l {a : Int} (ha : inI a) : (Int32.ofInt a).toInt64 = Int64.ofInt a := by
  apply Int64.toInt_inj.mp
  rw [Int32.toInt_toInt64, i32_toInt ha, i64_toInt ⟨by have := ha.1; omega, by have := ha.2; omega⟩]
/-- lcmp -/
def xcmp (a b : Int) : Int := if b < a then 1 else if a = b then 0 else -1
theorem i64_cmp {a b : Int} (ha : inL a) (hb : inL b) : lg_cmp (Int64.ofInt a) (Int64.ofInt b) = Int32.ofInt (xcmp a b) := by
  unfold lg_cmp xcmp
  simp only [gt_iff_lt, i64_lt hb ha, i64_eq ha hb]
  split
  · rfl
  · split <;> rfl
theorem xcmp_in (a b : Int) : inI (xcmp a b) := by
  unfold xcmp inI
  split
  · omega
  · split <;> omega
theorem xcmp_eq {a b : Int} : xcmp a b = 0 ↔ a = b := by
  unfold xcmp
  split
  · omega
  · split <;> omega
theorem xcmp_lt {a b : Int} : xcmp a b < 0 ↔ a < b := by
  unfold xcmp
  split
  · omega
  · split <;> omega
theorem xcmp_ge {a b : Int} : 0 ≤ xcmp a b ↔ b ≤ a := by
  unfold xcmp
  split
  · omega
  · split <;> omega
theorem xcmp_gt {a b : Int} : 0 < xcmp a b ↔ b < a := by
  unfold xcmp
  split
  · omega
  · split <;> omega
theorem xcmp_le {a b : Int} : xcmp a b ≤ 0 ↔ a ≤ b := by
  unfold xcmp
  split
  · omega
  · split <;> omega
