/-! lawful orders: the numbers (sets as natural numbers, B i: what must come ahead of i) -/
def may (B : Nat → Nat) (S i : Nat) : Bool := !S.testBit i && decide (wo (B i) S = 0)
theorem may_t {B : Nat → Nat} {S i : Nat} (h : may B S i = true) : S.testBit i = false ∧ ∀ j, (B i).testBit j = true → S.testBit j = true := by
  unfold may at h
  rw [Bool.and_eq_true] at h
  refine ⟨by simpa using h.1, (wo_eq0 _ _).mp (of_decide_eq_true h.2)⟩
theorem may_mk {B : Nat → Nat} {S i : Nat} (h1 : S.testBit i = false) (h2 : ∀ j, (B i).testBit j = true → S.testBit j = true) : may B S i = true := by
  unfold may
  rw [h1, decide_eq_true ((wo_eq0 _ _).mpr h2)]
  rfl
def sw (P : Nat → Bool) (g : Nat → Int) : Nat → Int
  | 0 => 0
  | k + 1 => if P k then sw P g k + g k else sw P g k
theorem sw_t {P : Nat → Bool} {g : Nat → Int} {k : Nat} (h : P k = true) : sw P g (k + 1) = sw P g k + g k := by rw [sw, if_pos h]
theorem sw_f {P : Nat → Bool} {g : Nat → Int} {k : Nat} (h : P k = false) : sw P g (k + 1) = sw P g k := by rw [sw, if_neg (by rw [h]; decide)]
theorem sw_congr {P : Nat → Bool} {g g' : Nat → Int} : ∀ n : Nat, (∀ i, i < n → P i = true → g i = g' i) → sw P g n = sw P g' n := by
  intro n
  induction n with
  | zero => intro _; rfl
  | succ n ih =>
    intro h
    have e := ih (fun i a b => h i (by omega) b)
    cases hp : P n with
    | true => rw [sw_t hp, sw_t hp, e, h n (by omega) hp]
    | false => rw [sw_f hp, sw_f hp, e]
theorem sw_b {P : Nat → Bool} {g : Nat → Int} {M : Int} (hM : 0 ≤ M) : ∀ n : Nat, (∀ i, i < n → P i = true → 0 ≤ g i ∧ g i ≤ M) → 0 ≤ sw P g n ∧ sw P g n ≤ n * M := by
  intro n
  induction n with
  | zero => intro _; simp [sw]
  | succ n ih =>
    intro h
    have e := ih (fun i a b => h i (by omega) b)
    have em : ((n + 1 : Nat) : Int) * M = n * M + M := by rw [show ((n + 1 : Nat) : Int) = (n : Int) + 1 by omega, Int.add_mul, Int.one_mul]
    rw [em]
    cases hp : P n with
    | true =>
      have := h n (by omega) hp
      rw [sw_t hp]; omega
    | false => rw [sw_f hp]; omega
theorem sw_le {P : Nat → Bool} {g : Nat → Int} {N : Nat} (h : ∀ i, i < N → P i = true → 0 ≤ g i) : ∀ (k n : Nat), n + k ≤ N → sw P g n ≤ sw P g (n + k) := by
  intro k
  induction k with
  | zero => intro n _; exact Int.le_refl _
  | succ k ih =>
    intro n hn
    have e := ih n (by omega)
    rw [show n + (k + 1) = (n + k) + 1 by omega]
    cases hp : P (n + k) with
    | true =>
      have := h (n + k) (by omega) hp
      rw [sw_t hp]; omega
    | false => rw [sw_f hp]; exact e
theorem sw_pick {P : Nat → Bool} {g : Nat → Int} {r : Int} : ∀ n : Nat, 0 ≤ r → r < sw P g n → ∃ j, j < n ∧ P j = true ∧ sw P g j ≤ r ∧ r < sw P g j + g j := by
  intro n
  induction n with
  | zero => intro a b; exact absurd b (by simp only [sw]; omega)
  | succ n ih =>
    intro a b
    by_cases c : r < sw P g n
    · obtain ⟨j, h1, h2⟩ := ih a c
      exact ⟨j, by omega, h2⟩
    · cases hp : P n with
      | true => rw [sw_t hp] at b; exact ⟨n, by omega, hp, by omega, b⟩
      | false => rw [sw_f hp] at b; omega
def zc (S : Nat) : Nat → Nat
  | 0 => 0
  | k + 1 => zc S k + (if S.testBit k then 0 else 1)
theorem zc_0iff {S : Nat} : ∀ n : Nat, zc S n = 0 ↔ ∀ i, i < n → S.testBit i = true := by
  intro n
  induction n with
  | zero => exact ⟨fun _ i h => by omega, fun _ => rfl⟩
  | succ n ih =>
    rw [zc]
    constructor
    · intro h i hi
      by_cases z : i = n
      · cases hb : S.testBit n with
        | true => rw [z]; exact hb
        | false => rw [hb, if_neg (by decide)] at h; omega
      · exact ih.mp (by omega) i (by omega)
    · intro h
      rw [ih.mpr (fun i hi => h i (by omega)), h n (by omega)]
      rfl
theorem zc_or {S i : Nat} (hi : S.testBit i = false) : ∀ n : Nat, (i < n → zc (S ||| 2 ^ i) n + 1 = zc S n) ∧ (n ≤ i → zc (S ||| 2 ^ i) n = zc S n) := by
  intro n
  induction n with
  | zero => exact ⟨fun h => by omega, fun _ => rfl⟩
  | succ n ih =>
    simp only [zc, or_bit]
    by_cases z : n = i
    · subst z
      have := ih.2 (by omega)
      rw [hi, this]
      exact ⟨fun _ => by simp, fun y => by omega⟩
    · rw [decide_eq_false z, Bool.or_false]
      exact ⟨fun y => by have := ih.1 (by omega); omega, fun y => by have := ih.2 (by omega); omega⟩
theorem zc_zero : ∀ n : Nat, zc 0 n = n := by
  intro n
  induction n with
  | zero => rfl
  | succ n ih => rw [zc, ih, Nat.zero_testBit]; rfl
theorem zc_le (S : Nat) : ∀ n : Nat, zc S n ≤ n := by
  intro n
  induction n with
  | zero => exact Nat.le_refl _
  | succ n ih => rw [zc]; split <;> omega
theorem full_iff {S n : Nat} (hS : S < 2 ^ n) : S = 2 ^ n - 1 ↔ zc S n = 0 := by
  rw [zc_0iff]
  constructor
  · intro h i hi
    rw [h, Nat.testBit_two_pow_sub_one, decide_eq_true hi]
  · intro h
    apply Nat.eq_of_testBit_eq
    intro i
    rw [Nat.testBit_two_pow_sub_one]
    by_cases z : i < n
    · rw [h i z, decide_eq_true z]
    · rw [decide_eq_false z]
      exact Nat.testBit_lt_two_pow (Nat.lt_of_lt_of_le hS (two_pow_le (by omega)))
theorem least_of (ρ : Nat → Int) (P : Nat → Bool) : ∀ n : Nat, (∃ i, i < n ∧ P i = true) → ∃ i, i < n ∧ P i = true ∧ ∀ j, j < n → P j = true → ρ i ≤ ρ j := by
  intro n
  induction n with
  | zero => intro ⟨i, h, _⟩; omega
  | succ n ih =>
    intro h
    by_cases c : ∃ i, i < n ∧ P i = true
    · obtain ⟨i, h1, h2, h3⟩ := ih c
      by_cases d : P n = true ∧ ρ n < ρ i
      · refine ⟨n, by omega, d.1, fun j hj hp => ?_⟩
        by_cases z : j = n
        · rw [z]; exact Int.le_refl _
        · have := h3 j (by omega) hp; omega
      · refine ⟨i, by omega, h2, fun j hj hp => ?_⟩
        by_cases z : j = n
        · subst z
          rcases Int.lt_or_le (ρ j) (ρ i) with y | y
          · exact absurd ⟨hp, y⟩ d
          · exact y
        · exact h3 j (by omega) hp
    · obtain ⟨i, h1, h2⟩ := h
      have : i = n := by
        rcases Nat.lt_or_ge i n with z | z
        · exact absurd ⟨i, z, h2⟩ c
        · omega
      subst this
      refine ⟨i, by omega, h2, fun j hj hp => ?_⟩
      by_cases z : j = i
      · rw [z]; exact Int.le_refl _
      · exact absurd ⟨j, by omega, hp⟩ c
/-- what lawful orders are made of: how many, what must come ahead, slots -/
def TH (n : Nat) (B : Nat → Nat) (SL : Int → Int) : Prop := n ≤ 12 ∧ (∀ i, i < n → B i < 2 ^ n) ∧ (∀ i : Nat, i < n → 0 ≤ SL i ∧ SL i ≤ 11) ∧ (∃ ρ : Nat → Int, ∀ i j : Nat, i < n → j < n → (B i).testBit j = true → ρ j < ρ i) ∧ ∀ i j : Nat, i < n → j < n → i ≠ j → SL i / 2 = SL j / 2 → (B i).testBit j = true ∨ (B j).testBit i = true
theorem may_ex {n : Nat} {B : Nat → Nat} {SL : Int → Int} (hT : TH n B SL) {S : Nat} (hz : zc S n ≠ 0) : ∃ i, i < n ∧ may B S i = true := by
  obtain ⟨t1, t2, t3, ⟨ρ, t4⟩, -⟩ := hT
  have h0 : ∃ i, i < n ∧ (fun i => !S.testBit i) i = true := by
    apply Classical.byContradiction
    intro c
    refine hz ((zc_0iff n).mpr (fun i hi => ?_))
    cases hb : S.testBit i with
    | true => rfl
    | false => exact absurd ⟨i, hi, by simp [hb]⟩ c
  obtain ⟨i, h1, h2, h3⟩ := least_of ρ (fun i => !S.testBit i) n h0
  refine ⟨i, h1, may_mk (by simpa using h2) (fun j hj => ?_)⟩
  have hjn : j < n := bit_lt (t2 i h1) hj
  have := t4 i j h1 hjn hj
  cases hb : S.testBit j with
  | true => rfl
  | false =>
    have := h3 j hjn (by simp [hb])
    omega
theorem or_lt' {S i n : Nat} (hS : S < 2 ^ n) (hi : i < n) : S ||| 2 ^ i < 2 ^ n := Nat.or_lt_two_pow hS (two_pow_lt hi)
/-- in how many ways all come behind a set that wants k -/
def wy (B : Nat → Nat) (n : Nat) : Nat → Nat → Int
  | 0, _ => 1
  | k + 1, S => sw (may B S) (fun i => wy B n k (S ||| 2 ^ i)) n
theorem wy_b {n : Nat} {B : Nat → Nat} {SL : Int → Int} (hT : TH n B SL) : ∀ (k S : Nat), S < 2 ^ n → zc S n = k → 1 ≤ wy B n k S ∧ wy B n k S ≤ ((12 ^ k : Nat) : Int) := by
  intro k
  induction k with
  | zero => intro S _ _; simp [wy]
  | succ k ih =>
    intro S hS hz
    have g : ∀ i, i < n → may B S i = true → 1 ≤ wy B n k (S ||| 2 ^ i) ∧ wy B n k (S ||| 2 ^ i) ≤ ((12 ^ k : Nat) : Int) := fun i hi hm => by
      have := (zc_or (may_t hm).1 n).1 hi
      exact ih _ (or_lt' hS hi) (by omega)
    have b := sw_b (P := may B S) (g := fun i => wy B n k (S ||| 2 ^ i)) (M := ((12 ^ k : Nat) : Int)) (Int.natCast_nonneg _) n (fun i hi hm => by
      have := g i hi hm
      exact ⟨by show (0 : Int) ≤ wy B n k (S ||| 2 ^ i); omega, this.2⟩)
    obtain ⟨i, h1, h2⟩ := may_ex hT (S := S) (by omega)
    have m := sw_le (P := may B S) (g := fun i => wy B n k (S ||| 2 ^ i)) (N := n) (fun i hi hm => by
      have := g i hi hm
      show (0 : Int) ≤ wy B n k (S ||| 2 ^ i); omega)
    have m1 := m (n - (i + 1)) (i + 1) (by omega)
    have m2 := m i 0 (by omega)
    rw [show i + 1 + (n - (i + 1)) = n by omega, sw_t h2] at m1
    rw [Nat.zero_add] at m2
    have s0 : sw (may B S) (fun i => wy B n k (S ||| 2 ^ i)) 0 = 0 := rfl
    have gi := (g i h1 h2).1
    have le : (n : Int) * ((12 ^ k : Nat) : Int) ≤ 12 * ((12 ^ k : Nat) : Int) := Int.mul_le_mul_of_nonneg_right (by have := hT.1; omega) (Int.natCast_nonneg _)
    have e12 : ((12 ^ (k + 1) : Nat) : Int) = 12 * ((12 ^ k : Nat) : Int) := by rw [Nat.pow_succ, Nat.mul_comm]; omega
    rw [wy, e12]
    refine ⟨?_, by omega⟩
    have m1 : sw (may B S) (fun i => wy B n k (S ||| 2 ^ i)) i + wy B n k (S ||| 2 ^ i) ≤ sw (may B S) (fun i => wy B n k (S ||| 2 ^ i)) n := m1
    omega
def WY (B : Nat → Nat) (n S : Nat) : Int := wy B n (zc S n) S
theorem WY_full {B : Nat → Nat} {n S : Nat} (hz : zc S n = 0) : WY B n S = 1 := by unfold WY; rw [hz]; rfl
theorem WY_st {B : Nat → Nat} {n S : Nat} (hz : zc S n ≠ 0) : WY B n S = sw (may B S) (fun i => WY B n (S ||| 2 ^ i)) n := by
  unfold WY
  obtain ⟨k, hk⟩ : ∃ k, zc S n = k + 1 := ⟨zc S n - 1, by omega⟩
  rw [hk, wy]
  refine sw_congr n (fun i hi hm => ?_)
  have := (zc_or (may_t hm).1 n).1 hi
  rw [show zc (S ||| 2 ^ i) n = k by omega]
theorem WY_b {n : Nat} {B : Nat → Nat} {SL : Int → Int} (hT : TH n B SL) {S : Nat} (hS : S < 2 ^ n) : 1 ≤ WY B n S ∧ WY B n S ≤ 8916100448256 := by
  have h := wy_b hT (zc S n) S hS rfl
  have l : (12 : Nat) ^ zc S n ≤ 12 ^ 12 := Nat.pow_le_pow_right (by decide) (Nat.le_trans (zc_le S n) hT.1)
  have e : (12 : Nat) ^ 12 = 8916100448256 := rfl
  unfold WY
  omega
/-- the least of numbers, -1 of none; the first of like ones -/
def mf (P : Nat → Bool) (g : Nat → Int) : Nat → Int
  | 0 => -1
  | k + 1 => if P k then (if mf P g k < 0 ∨ g k < mf P g k then g k else mf P g k) else mf P g k
theorem mf_f {P : Nat → Bool} {g : Nat → Int} {k : Nat} (h : P k = false) : mf P g (k + 1) = mf P g k := by rw [mf, if_neg (by rw [h]; decide)]
theorem mf_t {P : Nat → Bool} {g : Nat → Int} {k : Nat} (h : P k = true) : mf P g (k + 1) = if mf P g k < 0 ∨ g k < mf P g k then g k else mf P g k := by rw [mf, if_pos h]
theorem mf_congr {P : Nat → Bool} {g g' : Nat → Int} : ∀ n : Nat, (∀ i, i < n → P i = true → g i = g' i) → mf P g n = mf P g' n := by
  intro n
  induction n with
  | zero => intro _; rfl
  | succ n ih =>
    intro h
    have e := ih (fun i a b => h i (by omega) b)
    cases hp : P n with
    | true => rw [mf_t hp, mf_t hp, e, h n (by omega) hp]
    | false => rw [mf_f hp, mf_f hp, e]
theorem mf_spec {P : Nat → Bool} {g : Nat → Int} : ∀ n : Nat, (∀ i, i < n → P i = true → 0 ≤ g i) → (mf P g n = -1 ∧ ∀ i, i < n → P i = false) ∨ (0 ≤ mf P g n ∧ ∃ i, i < n ∧ P i = true ∧ g i = mf P g n ∧ (∀ j, j < n → P j = true → mf P g n ≤ g j) ∧ ∀ j, j < i → P j = true → g j ≠ mf P g n) := by
  intro n
  induction n with
  | zero => intro _; exact Or.inl ⟨rfl, fun i h => by omega⟩
  | succ n ih =>
    intro h
    have ih := ih (fun i a b => h i (by omega) b)
    cases hp : P n with
    | false =>
      rw [mf_f hp]
      rcases ih with ⟨h1, h2⟩ | ⟨h0, i, h1, h2, h3, h4, h5⟩
      · refine Or.inl ⟨h1, fun i hi => ?_⟩
        by_cases z : i = n
        · rw [z]; exact hp
        · exact h2 i (by omega)
      · refine Or.inr ⟨h0, i, by omega, h2, h3, fun j hj hpj => ?_, h5⟩
        by_cases z : j = n
        · rw [z, hp] at hpj; cases hpj
        · exact h4 j (by omega) hpj
    | true =>
      have g0 := h n (by omega) hp
      rw [mf_t hp]
      rcases ih with ⟨h1, h2⟩ | ⟨h0, i, h1, h2, h3, h4, h5⟩
      · rw [if_pos (Or.inl (by omega))]
        refine Or.inr ⟨g0, n, by omega, hp, rfl, fun j hj hpj => ?_, fun j hj hpj => ?_⟩
        · by_cases z : j = n
          · rw [z]; exact Int.le_refl _
          · rw [h2 j (by omega)] at hpj; cases hpj
        · rw [h2 j hj] at hpj; cases hpj
      · by_cases c : g n < mf P g n
        · rw [if_pos (Or.inr c)]
          refine Or.inr ⟨g0, n, by omega, hp, rfl, fun j hj hpj => ?_, fun j hj hpj => ?_⟩
          · by_cases z : j = n
            · rw [z]; exact Int.le_refl _
            · have := h4 j (by omega) hpj; omega
          · have := h4 j hj hpj; omega
        · rw [if_neg (by omega)]
          refine Or.inr ⟨h0, i, by omega, h2, h3, fun j hj hpj => ?_, h5⟩
          by_cases z : j = n
          · rw [z]; omega
          · exact h4 j (by omega) hpj
def ab (x : Int) : Int := max x (-x)
theorem ab_in {a b : Int} (ha : 0 ≤ a ∧ a ≤ 11) (hb : 0 ≤ b ∧ b ≤ 11) : 0 ≤ ab (a - b) ∧ ab (a - b) ≤ 11 := by unfold ab; omega
theorem ab_sym (a b : Int) : ab (a - b) = ab (b - a) := by unfold ab; omega
/-- how far the hand goes at least behind a set that wants k -/
def lta (B : Nat → Nat) (SL : Int → Int) (n : Nat) : Nat → Nat → Int → Int
  | 0, _, _ => 0
  | k + 1, S, f => mf (may B S) (fun i => ab (f - SL i) + lta B SL n k (S ||| 2 ^ i) (SL i)) n
theorem lta_b {n : Nat} {B : Nat → Nat} {SL : Int → Int} (hT : TH n B SL) : ∀ (k S : Nat) (f : Int), S < 2 ^ n → zc S n = k → 0 ≤ f ∧ f ≤ 11 → 0 ≤ lta B SL n k S f ∧ lta B SL n k S f ≤ 11 * k := by
  intro k
  induction k with
  | zero => intro S f _ _ _; simp [lta]
  | succ k ih =>
    intro S f hS hz hf
    have g : ∀ i, i < n → may B S i = true → 0 ≤ ab (f - SL i) + lta B SL n k (S ||| 2 ^ i) (SL i) ∧ ab (f - SL i) + lta B SL n k (S ||| 2 ^ i) (SL i) ≤ 11 + 11 * k := fun i hi hm => by
      have z := (zc_or (may_t hm).1 n).1 hi
      have a := ih (S ||| 2 ^ i) (SL i) (or_lt' hS hi) (by omega) (hT.2.2.1 i hi)
      have b := ab_in hf (hT.2.2.1 i hi)
      omega
    rw [lta]
    rcases mf_spec (P := may B S) (g := fun i => ab (f - SL i) + lta B SL n k (S ||| 2 ^ i) (SL i)) n (fun i hi hm => (g i hi hm).1) with ⟨h1, h2⟩ | ⟨h0, i, h1, h2, h3, _⟩
    · obtain ⟨i, e1, e2⟩ := may_ex hT (S := S) (by omega)
      rw [h2 i e1] at e2; cases e2
    · have := (g i h1 h2).2
      have h3 : ab (f - SL i) + lta B SL n k (S ||| 2 ^ i) (SL i) = _ := h3
      refine ⟨h0, ?_⟩
      omega
def LT (B : Nat → Nat) (SL : Int → Int) (n S : Nat) (f : Int) : Int := lta B SL n (zc S n) S f
def lg1 (B : Nat → Nat) (SL : Int → Int) (n S : Nat) (f : Int) (i : Nat) : Int := ab (f - SL i) + LT B SL n (S ||| 2 ^ i) (SL i)
theorem LT_full {B : Nat → Nat} {SL : Int → Int} {n S : Nat} {f : Int} (hz : zc S n = 0) : LT B SL n S f = 0 := by unfold LT; rw [hz]; rfl
theorem LT_st {B : Nat → Nat} {SL : Int → Int} {n S : Nat} {f : Int} (hz : zc S n ≠ 0) : LT B SL n S f = mf (may B S) (lg1 B SL n S f) n := by
  unfold LT
  obtain ⟨k, hk⟩ : ∃ k, zc S n = k + 1 := ⟨zc S n - 1, by omega⟩
  rw [hk, lta]
  refine mf_congr n (fun i hi hm => ?_)
  have := (zc_or (may_t hm).1 n).1 hi
  unfold lg1 LT
  rw [show zc (S ||| 2 ^ i) n = k by omega]
theorem LT_b {n : Nat} {B : Nat → Nat} {SL : Int → Int} (hT : TH n B SL) {S : Nat} {f : Int} (hS : S < 2 ^ n) (hf : 0 ≤ f ∧ f ≤ 11) : 0 ≤ LT B SL n S f ∧ LT B SL n S f ≤ 132 := by
  have h := lta_b hT (zc S n) S f hS rfl hf
  have := zc_le S n
  have := hT.1
  unfold LT
  omega
theorem lg1_b {n : Nat} {B : Nat → Nat} {SL : Int → Int} (hT : TH n B SL) {S i : Nat} {f : Int} (hS : S < 2 ^ n) (hf : 0 ≤ f ∧ f ≤ 11) (hi : i < n) : 0 ≤ lg1 B SL n S f i ∧ lg1 B SL n S f i ≤ 143 := by
  have a := LT_b hT (or_lt' hS hi) (hT.2.2.1 i hi)
  have b := ab_in hf (hT.2.2.1 i hi)
  unfold lg1
  omega
theorem may_full {B : Nat → Nat} {n S i : Nat} (hz : zc S n = 0) (hi : i < n) : may B S i = false := by
  cases h : may B S i with
  | false => rfl
  | true =>
    have := (may_t h).1
    rw [(zc_0iff n).mp hz i hi] at this
    cases this
/-- the class's answer: none counts as 0 -/
theorem LT_mx {n : Nat} {B : Nat → Nat} {SL : Int → Int} (hT : TH n B SL) {S : Nat} {f : Int} (hS : S < 2 ^ n) (hf : 0 ≤ f ∧ f ≤ 11) : max (mf (may B S) (lg1 B SL n S f) n) 0 = LT B SL n S f := by
  by_cases hz : zc S n = 0
  · rw [LT_full hz]
    rcases mf_spec (P := may B S) (g := lg1 B SL n S f) n (fun i hi hm => (lg1_b hT hS hf hi).1) with ⟨h1, h2⟩ | ⟨h0, i, h1, h2, h3, _⟩
    · rw [h1]; rfl
    · rw [may_full hz h1] at h2; cases h2
  · have := LT_b hT hS hf
    rw [LT_st hz] at this ⊢
    omega
/-- the steps of an order: the k-th, the one of least travel -/
def Od (B : Nat → Nat) (n : Nat) (L : Int → Int) : Nat → Nat → Int → Int → Int → Prop
  | 0, _, _, la, a => a = la
  | t + 1, S, r, _, a => ∃ j : Nat, j < n ∧ may B S j = true ∧ sw (may B S) (fun i => WY B n (S ||| 2 ^ i)) j ≤ r ∧ r < sw (may B S) (fun i => WY B n (S ||| 2 ^ i)) j + WY B n (S ||| 2 ^ j) ∧ Od B n L t (S ||| 2 ^ j) (r - sw (may B S) (fun i => WY B n (S ||| 2 ^ i)) j) (L j) a
def Al (B : Nat → Nat) (SL : Int → Int) (n : Nat) (L : Int → Int) : Nat → Nat → Int → Int → Int → Prop
  | 0, _, _, la, a => a = la
  | t + 1, S, f, _, a => ∃ j : Nat, j < n ∧ may B S j = true ∧ lg1 B SL n S f j = LT B SL n S f ∧ (∀ i : Nat, i < j → may B S i = true → lg1 B SL n S f i ≠ LT B SL n S f) ∧ Al B SL n L t (S ||| 2 ^ j) (SL j) (L j) a
theorem Od_ex {n : Nat} {B : Nat → Nat} {L : Int → Int} : ∀ (t S : Nat) (r la : Int), t ≤ zc S n → 0 ≤ r → r < WY B n S → ∃ a, Od B n L t S r la a := by
  intro t
  induction t with
  | zero => intro S r la _ _ _; exact ⟨la, rfl⟩
  | succ t ih =>
    intro S r la ht hr hw
    rw [WY_st (by omega)] at hw
    obtain ⟨j, h1, h2, h3, h4⟩ := sw_pick n hr hw
    have z := (zc_or (may_t h2).1 n).1 h1
    have h4 : r < sw (may B S) (fun i => WY B n (S ||| 2 ^ i)) j + WY B n (S ||| 2 ^ j) := h4
    obtain ⟨a, ha⟩ := ih (S ||| 2 ^ j) (r - sw (may B S) (fun i => WY B n (S ||| 2 ^ i)) j) (L j) (by omega) (by omega) (by omega)
    exact ⟨a, j, h1, h2, h3, h4, ha⟩
theorem Al_ex {n : Nat} {B : Nat → Nat} {SL L : Int → Int} (hT : TH n B SL) : ∀ (t S : Nat) (f la : Int), t ≤ zc S n → S < 2 ^ n → 0 ≤ f ∧ f ≤ 11 → ∃ a, Al B SL n L t S f la a := by
  intro t
  induction t with
  | zero => intro S r la _ _ _; exact ⟨la, rfl⟩
  | succ t ih =>
    intro S f la ht hS hf
    rcases mf_spec (P := may B S) (g := lg1 B SL n S f) n (fun i hi hm => (lg1_b hT hS hf hi).1) with ⟨h1, h2⟩ | ⟨h0, j, h1, h2, h3, h4, h5⟩
    · obtain ⟨i, e1, e2⟩ := may_ex hT (S := S) (by omega)
      rw [h2 i e1] at e2; cases e2
    · rw [← LT_st (by omega)] at h3 h5
      have z := (zc_or (may_t h2).1 n).1 h1
      obtain ⟨a, ha⟩ := ih (S ||| 2 ^ j) (SL j) (L j) (by omega) (or_lt' hS h1) (hT.2.2.1 j h1)
      exact ⟨a, j, h1, h2, h3, h5, ha⟩
theorem Od_in {n : Nat} {B : Nat → Nat} {L : Int → Int} : ∀ (t S : Nat) (r la a : Int), Od B n L t S r la a → a = la ∨ ∃ j : Nat, j < n ∧ a = L j := by
  intro t
  induction t with
  | zero => intro S r la a h; exact Or.inl h
  | succ t ih =>
    intro S r la a h
    obtain ⟨j, h1, _, _, _, h5⟩ := h
    rcases ih _ _ _ _ h5 with z | z
    · exact Or.inr ⟨j, h1, z⟩
    · exact Or.inr z
theorem Al_in {n : Nat} {B : Nat → Nat} {SL L : Int → Int} : ∀ (t S : Nat) (f la a : Int), Al B SL n L t S f la a → a = la ∨ ∃ j : Nat, j < n ∧ a = L j := by
  intro t
  induction t with
  | zero => intro S r la a h; exact Or.inl h
  | succ t ih =>
    intro S r la a h
    obtain ⟨j, h1, _, _, _, h5⟩ := h
    rcases ih _ _ _ _ h5 with z | z
    · exact Or.inr ⟨j, h1, z⟩
    · exact Or.inr z
