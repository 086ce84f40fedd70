/-! lawful orders: how many sets can come up -/
def ID (B : Nat → Nat) (n S : Nat) : Prop := ∀ i, i < n → S.testBit i = true → ∀ j, (B i).testBit j = true → S.testBit j = true
theorem ID_0 (B : Nat → Nat) (n : Nat) : ID B n 0 := fun i _ h => by rw [Nat.zero_testBit] at h; cases h
theorem ID_or {B : Nat → Nat} {n S i : Nat} (h : ID B n S) (hm : may B S i = true) : ID B n (S ||| 2 ^ i) := by
  intro a ha hb j hj
  rw [or_bit, Bool.or_eq_true] at hb
  rw [or_bit, Bool.or_eq_true]
  rcases hb with z | z
  · exact Or.inl (h a ha z j hj)
  · have : i = a ∨ a = i := by
      have := of_decide_eq_true z
      omega
    have e : a = i := by omega
    rw [e] at hj
    exact Or.inl ((may_t hm).2 j hj)
/-- how many below n -/
def ct (P : Nat → Bool) : Nat → Nat
  | 0 => 0
  | k + 1 => ct P k + (if P k = true then 1 else 0)
theorem ct_le {P R : Nat → Bool} : ∀ n : Nat, (∀ i, i < n → P i = true → R i = true) → ct P n ≤ ct R n := by
  intro n
  induction n with
  | zero => intro _; exact Nat.le_refl _
  | succ n ih =>
    intro h
    have := ih (fun i a => h i (by omega))
    rw [ct, ct]
    by_cases z : P n = true
    · rw [if_pos z, if_pos (h n (by omega) z)]; omega
    · rw [if_neg z]; omega
theorem ct_eq {P R : Nat → Bool} : ∀ n : Nat, (∀ i, i < n → P i = true → R i = true) → ct P n = ct R n → ∀ i, i < n → R i = true → P i = true := by
  intro n
  induction n with
  | zero => intro _ _ i h; omega
  | succ n ih =>
    intro h e i hi hr
    have l := ct_le (P := P) (R := R) n (fun i a => h i (by omega))
    rw [ct, ct] at e
    by_cases z : P n = true
    · rw [if_pos z, if_pos (h n (by omega) z)] at e
      by_cases y : i = n
      · rw [y]; exact z
      · exact ih (fun i a => h i (by omega)) (by omega) i (by omega) hr
    · rw [if_neg z] at e
      by_cases w : R n = true
      · rw [if_pos w] at e; omega
      · rw [if_neg w] at e
        by_cases y : i = n
        · rw [y] at hr; exact absurd hr w
        · exact ih (fun i a => h i (by omega)) (by omega) i (by omega) hr
def cd (c a : Nat → Nat) : Nat → Nat
  | 0 => 0
  | g + 1 => cd c a g * (c g + 1) + a g
def sz (c : Nat → Nat) : Nat → Nat
  | 0 => 1
  | g + 1 => sz c g * (c g + 1)
def tot (c : Nat → Nat) : Nat → Nat
  | 0 => 0
  | g + 1 => tot c g + c g
theorem cd_lt {c a : Nat → Nat} : ∀ k : Nat, (∀ g, g < k → a g ≤ c g) → cd c a k < sz c k := by
  intro k
  induction k with
  | zero => intro _; show 0 < 1; decide
  | succ k ih =>
    intro h
    have i1 := ih (fun g x => h g (by omega))
    have i2 := h k (by omega)
    have i3 := Nat.mul_le_mul_right (c k + 1) (Nat.succ_le_of_lt i1)
    rw [Nat.succ_mul] at i3
    rw [cd, sz]
    omega
theorem cd_inj {c a b : Nat → Nat} : ∀ k : Nat, (∀ g, g < k → a g ≤ c g) → (∀ g, g < k → b g ≤ c g) → cd c a k = cd c b k → ∀ g, g < k → a g = b g := by
  intro k
  induction k with
  | zero => intro _ _ _ g h; omega
  | succ k ih =>
    intro ha hb e g hg
    have la := ha k (by omega)
    have lb := hb k (by omega)
    rw [cd, cd] at e
    have ea : (cd c a k * (c k + 1) + a k) % (c k + 1) = a k := by rw [Nat.mul_comm, Nat.mul_add_mod, Nat.mod_eq_of_lt (by omega)]
    have eb : (cd c b k * (c k + 1) + b k) % (c k + 1) = b k := by rw [Nat.mul_comm, Nat.mul_add_mod, Nat.mod_eq_of_lt (by omega)]
    have ek : a k = b k := by rw [← ea, ← eb, e]
    by_cases y : g = k
    · rw [y]; exact ek
    · have e2 : cd c a k * (c k + 1) = cd c b k * (c k + 1) := by omega
      exact ih (fun g x => ha g (by omega)) (fun g x => hb g (by omega)) (Nat.eq_of_mul_eq_mul_right (by omega) e2) g (by omega)
/-- the greatest of the first numbers -/
def mo (f : Nat → Nat) : Nat → Nat
  | 0 => 0
  | t + 1 => max (mo f t) (f t)
theorem mo_le (f : Nat → Nat) : ∀ (t x : Nat), x < t → f x ≤ mo f t := by
  intro t
  induction t with
  | zero => intro x h; omega
  | succ t ih =>
    intro x h
    rw [mo]
    by_cases y : x = t
    · rw [y]; exact Nat.le_max_right _ _
    · exact Nat.le_trans (ih x (by omega)) (Nat.le_max_left _ _)
def mxp : Nat → Nat → Nat
  | 0, _ => 1
  | k + 1, m => mo (fun x => mxp k (m - x) * (x + 1)) (m + 1)
theorem sz_le {c : Nat → Nat} : ∀ k m : Nat, tot c k ≤ m → sz c k ≤ mxp k m := by
  intro k
  induction k with
  | zero => intro m _; exact Nat.le_refl _
  | succ k ih =>
    intro m h
    rw [tot] at h
    have i1 := ih (m - c k) (by omega)
    have i2 := Nat.mul_le_mul_right (c k + 1) i1
    have i3 := mo_le (fun x => mxp k (m - x) * (x + 1)) (m + 1) (c k) (by omega)
    rw [sz, mxp]
    exact Nat.le_trans i2 i3
set_option maxRecDepth 20000 in
theorem mxp_12 : mxp 6 12 = 729 := by decide +kernel
theorem sm_add (x y : Nat → Nat) : ∀ k : Nat, tot (fun g => x g + y g) k = tot x k + tot y k := by
  intro k
  induction k with
  | zero => rfl
  | succ k ih => rw [tot, tot, tot, ih]; omega
theorem sm_ind (v : Int) : ∀ k : Nat, tot (fun g => if decide (v = (g : Int)) = true then 1 else 0) k ≤ 1 ∧ ((k : Int) ≤ v → tot (fun g => if decide (v = (g : Int)) = true then 1 else 0) k = 0) := by
  intro k
  induction k with
  | zero => exact ⟨by rw [tot]; omega, fun _ => rfl⟩
  | succ k ih =>
    rw [tot]
    by_cases z : v = (k : Int)
    · rw [if_pos (decide_eq_true z)]
      have := ih.2 (by omega)
      exact ⟨by omega, fun y => by omega⟩
    · rw [if_neg (by rw [decide_eq_false z]; decide)]
      exact ⟨by omega, fun y => by have := ih.2 (by omega); omega⟩
/-- how many of each chain -/
theorem sm_ct (v : Nat → Int) (k : Nat) : ∀ n : Nat, tot (fun g => ct (fun i => decide (v i = (g : Int))) n) k ≤ n := by
  intro n
  induction n with
  | zero =>
    have : ∀ k : Nat, tot (fun g => ct (fun i => decide (v i = (g : Int))) 0) k = 0 := by
      intro k
      induction k with
      | zero => rfl
      | succ k ih => rw [tot, ih]; rfl
    rw [this]
    exact Nat.le_refl _
  | succ n ih =>
    have e := sm_add (fun g => ct (fun i => decide (v i = (g : Int))) n) (fun g => if decide (v n = (g : Int)) = true then 1 else 0) k
    have u := (sm_ind (v n) k).1
    show tot (fun g => ct (fun i => decide (v i = (g : Int))) n + (if decide (v n = (g : Int)) = true then 1 else 0)) k ≤ n + 1
    omega
theorem pgn : ∀ (N c : Nat) (f : Nat → Nat), (∀ q, q < c → f q < N) → (∀ q r, q < c → r < c → f q = f r → q = r) → c ≤ N := by
  intro N
  induction N with
  | zero =>
    intro c f h _
    rcases Nat.eq_zero_or_pos c with z | z
    · omega
    · have := h 0 z; omega
  | succ N ih =>
    intro c f h hi
    by_cases z : ∃ q, q < c ∧ f q = N
    · obtain ⟨q0, h0, e0⟩ := z
      have := ih (c - 1) (fun q => if q < q0 then f q else f (q + 1)) (fun q hq => ?_) (fun q r hq hr e => ?_)
      · omega
      · show (if q < q0 then f q else f (q + 1)) < N
        by_cases y : q < q0
        · rw [if_pos y]
          have a := h q (by omega)
          by_cases w : f q = N
          · have := hi q q0 (by omega) h0 (by omega); omega
          · omega
        · rw [if_neg y]
          have a := h (q + 1) (by omega)
          by_cases w : f (q + 1) = N
          · have := hi (q + 1) q0 (by omega) h0 (by omega); omega
          · omega
      · have e : (if q < q0 then f q else f (q + 1)) = (if r < q0 then f r else f (r + 1)) := e
        by_cases y : q < q0
        · rw [if_pos y] at e
          by_cases w : r < q0
          · rw [if_pos w] at e
            exact hi q r (by omega) (by omega) e
          · rw [if_neg w] at e
            have := hi q (r + 1) (by omega) (by omega) e
            omega
        · rw [if_neg y] at e
          by_cases w : r < q0
          · rw [if_pos w] at e
            have := hi (q + 1) r (by omega) (by omega) e
            omega
          · rw [if_neg w] at e
            have := hi (q + 1) (r + 1) (by omega) (by omega) e
            omega
    · have := ih c f (fun q hq => ?_) hi
      · omega
      · have a := h q hq
        by_cases w : f q = N
        · exact absurd ⟨q, hq, w⟩ z
        · omega
/-- of two such sets, one holds the other's pins of a chain -/
theorem ID_ch {n : Nat} {B : Nat → Nat} {SL : Int → Int} (hT : TH n B SL) {S T : Nat} (hS : ID B n S) (hU : ID B n T) (g : Nat) (e : ct (fun i => decide (SL (i : Int) / 2 = (g : Int)) && S.testBit i) n = ct (fun i => decide (SL (i : Int) / 2 = (g : Int)) && T.testBit i) n) : ∀ i, i < n → SL (i : Int) / 2 = (g : Int) → S.testBit i = T.testBit i := by
  have ch := hT.2.2.2.2
  have one : ∀ S T : Nat, ID B n S → ID B n T → ct (fun i => decide (SL (i : Int) / 2 = (g : Int)) && S.testBit i) n = ct (fun i => decide (SL (i : Int) / 2 = (g : Int)) && T.testBit i) n → (∀ i, i < n → SL (i : Int) / 2 = (g : Int) → S.testBit i = true → T.testBit i = true) → ∀ i, i < n → SL (i : Int) / 2 = (g : Int) → S.testBit i = T.testBit i := by
    intro S T _ _ e h i hi hg
    have b := ct_eq (P := fun i => decide (SL (i : Int) / 2 = (g : Int)) && S.testBit i) (R := fun i => decide (SL (i : Int) / 2 = (g : Int)) && T.testBit i) n (fun j hj w => by
      have w : (decide (SL (j : Int) / 2 = (g : Int)) && S.testBit j) = true := w
      rw [Bool.and_eq_true] at w
      show (decide (SL (j : Int) / 2 = (g : Int)) && T.testBit j) = true
      rw [w.1, h j hj (of_decide_eq_true w.1) w.2]
      rfl) e i hi
    have b : (decide (SL (i : Int) / 2 = (g : Int)) && T.testBit i) = true → (decide (SL (i : Int) / 2 = (g : Int)) && S.testBit i) = true := b
    rw [decide_eq_true hg, Bool.true_and, Bool.true_and] at b
    have a := h i hi hg
    cases hs : S.testBit i with
    | true => exact (a hs).symm
    | false =>
      cases ht : T.testBit i with
      | false => rfl
      | true => rw [b ht] at hs; cases hs
  by_cases c : ∀ i, i < n → SL (i : Int) / 2 = (g : Int) → S.testBit i = true → T.testBit i = true
  · exact one S T hS hU e c
  · intro i hi hg
    refine (one T S hU hS e.symm (fun j hj hgj hb => ?_) i hi hg).symm
    apply Classical.byContradiction
    intro nb
    refine c (fun a ha hga hsa => ?_)
    apply Classical.byContradiction
    intro nt
    have ne : a ≠ j := fun z => by rw [z] at hsa; exact nb hsa
    rcases ch a j ha hj ne (by omega) with z | z
    · exact nb (hS a ha hsa j z)
    · exact nt (hU j hj hb a z)
theorem ID_le {n : Nat} {B : Nat → Nat} {SL : Int → Int} (hT : TH n B SL) {c : Nat} {σ : Nat → Nat} (h1 : ∀ q, q < c → σ q < 2 ^ n ∧ ID B n (σ q)) (h2 : ∀ q r, q < c → r < c → σ q = σ r → q = r) : c ≤ 729 := by
  have la : ∀ (S g : Nat), ct (fun i => decide (SL (i : Int) / 2 = (g : Int)) && S.testBit i) n ≤ ct (fun i => decide (SL (i : Int) / 2 = (g : Int))) n := fun S g => ct_le n (fun i _ w => by
    have w : (decide (SL (i : Int) / 2 = (g : Int)) && S.testBit i) = true := w
    rw [Bool.and_eq_true] at w
    exact w.1)
  have s6 := sm_ct (fun i => SL (i : Int) / 2) 6 n
  have z6 : sz (fun g => ct (fun i => decide (SL (i : Int) / 2 = (g : Int))) n) 6 ≤ mxp 6 12 := sz_le 6 12 (Nat.le_trans s6 hT.1)
  rw [mxp_12] at z6
  refine Nat.le_trans (pgn (sz (fun g => ct (fun i => decide (SL (i : Int) / 2 = (g : Int))) n) 6) c (fun q => cd (fun g => ct (fun i => decide (SL (i : Int) / 2 = (g : Int))) n) (fun g => ct (fun i => decide (SL (i : Int) / 2 = (g : Int)) && (σ q).testBit i) n) 6) (fun q hq => cd_lt 6 (fun g _ => la (σ q) g)) (fun q r hq hr e => h2 q r hq hr ?_)) z6
  have eg := cd_inj 6 (fun g _ => la (σ q) g) (fun g _ => la (σ r) g) e
  apply Nat.eq_of_testBit_eq
  intro i
  by_cases z : i < n
  · have sl := hT.2.2.1 i z
    obtain ⟨g, hg⟩ : ∃ g : Nat, SL (i : Int) / 2 = (g : Int) := ⟨(SL (i : Int) / 2).toNat, by omega⟩
    exact ID_ch hT (h1 q hq).2 (h1 r hr).2 g (eg g (by omega)) i z hg
  · have p : 2 ^ n ≤ 2 ^ i := two_pow_le (by omega)
    rw [Nat.testBit_lt_two_pow (Nat.lt_of_lt_of_le (h1 q hq).1 p), Nat.testBit_lt_two_pow (Nat.lt_of_lt_of_le (h1 r hr).1 p)]
