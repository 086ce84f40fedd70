/-! the tape: what is read (T the bytes, n how many, p a place, f the fault, -1 of none) -/
def isL (T : Int → Int) (n p : Int) : Bool := decide (p < n ∧ 97 ≤ T p ∧ T p ≤ 122)
def isD (T : Int → Int) (n p : Int) : Bool := decide (p < n ∧ 48 ≤ T p ∧ T p ≤ 57)
def skf (T : Int → Int) (n : Int) : Nat → Int → Int
  | 0, p => p
  | k + 1, p => if isL T n p then skf T n k (p + 1) else p
def sk (T : Int → Int) (n p : Int) : Int := skf T n (n - p).toNat p
theorem isL_t {T : Int → Int} {n p : Int} (h : isL T n p = true) : p < n ∧ 97 ≤ T p ∧ T p ≤ 122 := of_decide_eq_true h
theorem isD_t {T : Int → Int} {n p : Int} (h : isD T n p = true) : p < n ∧ 48 ≤ T p ∧ T p ≤ 57 := of_decide_eq_true h
theorem isL_f {T : Int → Int} {n p : Int} (h : isL T n p = false) : ¬ (p < n ∧ 97 ≤ T p ∧ T p ≤ 122) := of_decide_eq_false h
theorem isD_f {T : Int → Int} {n p : Int} (h : isD T n p = false) : ¬ (p < n ∧ 48 ≤ T p ∧ T p ≤ 57) := of_decide_eq_false h
theorem sk_t {T : Int → Int} {n p : Int} (h : isL T n p = true) : sk T n p = sk T n (p + 1) := by
  have := isL_t h
  unfold sk
  obtain ⟨k, hk⟩ : ∃ k, (n - p).toNat = k + 1 := ⟨(n - p).toNat - 1, by omega⟩
  rw [hk, skf, if_pos h, show (n - (p + 1)).toNat = k by omega]
theorem sk_f {T : Int → Int} {n p : Int} (h : isL T n p = false) : sk T n p = p := by
  unfold sk
  cases (n - p).toNat with
  | zero => rfl
  | succ k => rw [skf, if_neg (by rw [h]; decide)]
theorem sk_in {T : Int → Int} {n : Int} : ∀ (k : Nat) (p : Int), p + k = n → p ≤ sk T n p ∧ sk T n p ≤ n := by
  intro k
  induction k with
  | zero =>
    intro p hp
    have : isL T n p = false := decide_eq_false (fun z => by omega)
    rw [sk_f this]; omega
  | succ k ih =>
    intro p hp
    cases h : isL T n p with
    | true =>
      rw [sk_t h]
      have := ih (p + 1) (by omega)
      omega
    | false => rw [sk_f h]; omega
theorem sk_b {T : Int → Int} {n p : Int} (hp : p ≤ n) : p ≤ sk T n p ∧ sk T n p ≤ n := sk_in (n - p).toNat p (by omega)
/-- word i stands from p to q -/
def wdm (T : Int → Int) (i : Nat) (p q : Int) : Bool := decide (q - p = slen i ∧ ∀ k : Nat, k < (slen i).toNat → T (p + k) = schr i k)
theorem wdm_t {T : Int → Int} {i : Nat} {p q : Int} (h : wdm T i p q = true) : q - p = slen i ∧ ∀ k : Nat, k < (slen i).toNat → T (p + k) = schr i k := of_decide_eq_true h
theorem wdm_mk {T : Int → Int} {i : Nat} {p q : Int} (h1 : q - p = slen i) (h2 : ∀ k : Nat, k < (slen i).toNat → T (p + k) = schr i k) : wdm T i p q = true := decide_eq_true ⟨h1, h2⟩
theorem wdm_f1 {T : Int → Int} {i : Nat} {p q : Int} (h : ¬ q - p = slen i) : wdm T i p q = false := decide_eq_false (fun z => h z.1)
theorem wdm_f2 {T : Int → Int} {i : Nat} {p q : Int} (k : Nat) (hk : k < (slen i).toNat) (h : ¬ T (p + k) = schr i k) : wdm T i p q = false := decide_eq_false (fun z => h (z.2 k hk))
/-- the first word of a .. a + b - 1 that stands there, as a number from 0; -1 of none -/
def fw (T : Int → Int) (p q : Int) (a : Nat) : Nat → Int
  | 0 => -1
  | b + 1 => if 0 ≤ fw T p q a b then fw T p q a b else if wdm T (a + b) p q then b else -1
theorem fw_ok {T : Int → Int} {p q : Int} {a : Nat} : ∀ b : Nat, (fw T p q a b = -1 ∧ ∀ w : Nat, w < b → wdm T (a + w) p q = false) ∨ ∃ w : Nat, w < b ∧ fw T p q a b = w ∧ wdm T (a + w) p q = true ∧ ∀ v : Nat, v < w → wdm T (a + v) p q = false := by
  intro b
  induction b with
  | zero => exact Or.inl ⟨rfl, fun w h => by omega⟩
  | succ b ih =>
    rcases ih with ⟨h1, h2⟩ | ⟨w, h1, h2, h3, h4⟩
    · rw [fw, if_neg (by omega)]
      cases hb : wdm T (a + b) p q with
      | true => exact Or.inr ⟨b, by omega, by simp, hb, h2⟩
      | false =>
        refine Or.inl ⟨by simp, fun w hw => ?_⟩
        by_cases z : w = b
        · rw [z]; exact hb
        · exact h2 w (by omega)
    · rw [fw, if_pos (by omega)]
      exact Or.inr ⟨w, by omega, h2, h3, h4⟩
theorem fw_at {T : Int → Int} {p q : Int} {a b w : Nat} (hw : w < b) (h1 : wdm T (a + w) p q = true) (h2 : ∀ v : Nat, v < w → wdm T (a + v) p q = false) : fw T p q a b = w := by
  rcases fw_ok (T := T) (p := p) (q := q) (a := a) b with ⟨g1, g2⟩ | ⟨v, g1, g2, g3, g4⟩
  · rw [g2 w hw] at h1; cases h1
  · rw [g2]
    rcases (show v < w ∨ v = w ∨ w < v by omega) with z | z | z
    · rw [h2 v z] at g3; cases g3
    · rw [z]
    · rw [g4 w z] at h1; cases h1
theorem fw_no {T : Int → Int} {p q : Int} {a b : Nat} (h : ∀ w : Nat, w < b → wdm T (a + w) p q = false) : fw T p q a b = -1 := by
  rcases fw_ok (T := T) (p := p) (q := q) (a := a) b with ⟨g1, g2⟩ | ⟨v, g1, g2, g3, g4⟩
  · exact g1
  · rw [h v g1] at g3; cases g3
theorem fw_b (T : Int → Int) (p q : Int) (a b : Nat) : -1 ≤ fw T p q a b ∧ fw T p q a b < b := by
  rcases fw_ok (T := T) (p := p) (q := q) (a := a) b with ⟨g1, g2⟩ | ⟨v, g1, g2, g3, g4⟩ <;> omega
theorem fw_len {T : Int → Int} {p q : Int} {a b : Nat} (hb : a + b ≤ 9) (h : 0 ≤ fw T p q a b) : 3 ≤ q - p := by
  rcases fw_ok (T := T) (p := p) (q := q) (a := a) b with ⟨g1, g2⟩ | ⟨v, g1, g2, g3, g4⟩
  · omega
  · have := (wdm_t g3).1
    have := slen_in (i := a + v) (by omega)
    omega
theorem fw_len4 {T : Int → Int} {p q : Int} (h : 1 ≤ fw T p q 0 4) : 4 ≤ q - p := by
  rcases fw_ok (T := T) (p := p) (q := q) (a := 0) 4 with ⟨g1, g2⟩ | ⟨v, g1, g2, g3, g4⟩
  · omega
  · have := (wdm_t g3).1
    have e : ∀ v : Nat, 1 ≤ v → v < 4 → 4 ≤ slen (0 + v) := by
      have : ∀ v : Nat, v < 4 → 1 ≤ v → 4 ≤ xlen.getD (0 + v) 0 := by decide
      intro v a b
      have := this v b a
      unfold slen; omega
    have := e v (by omega) g1
    omega
abbrev R3 : Type := Int × Int × Int
def rX (T : Int → Int) (n c p f : Int) : Int × Int := if 0 ≤ f then (p, f) else if p < n ∧ T p = c then (p + 1, f) else (p, p)
def rN (T : Int → Int) (n p f : Int) : R3 :=
  if 0 ≤ (rX T n 32 p f).2 then ((rX T n 32 p f).1, (rX T n 32 p f).2, 0)
  else if isD T n (rX T n 32 p f).1 then (if isD T n ((rX T n 32 p f).1 + 1) then ((rX T n 32 p f).1 + 1 + 1, (rX T n 32 p f).2, 10 * (T (rX T n 32 p f).1 - 48) + (T ((rX T n 32 p f).1 + 1) - 48)) else ((rX T n 32 p f).1 + 1, (rX T n 32 p f).2, T (rX T n 32 p f).1 - 48))
  else ((rX T n 32 p f).1, (rX T n 32 p f).1, 0)
def rK (T : Int → Int) (n p : Int) : R3 := if fw T p (sk T n p) 0 4 < 0 then (sk T n p, p, 3) else (sk T n p, -1, fw T p (sk T n p) 0 4)
def rS (T : Int → Int) (n p f : Int) : R3 :=
  if 0 ≤ (rX T n 32 p f).2 then ((rX T n 32 p f).1, (rX T n 32 p f).2, 0)
  else if fw T (rX T n 32 p f).1 (sk T n (rX T n 32 p f).1) 4 5 < 0 then (sk T n (rX T n 32 p f).1, (rX T n 32 p f).1, 0)
  else (sk T n (rX T n 32 p f).1, (rX T n 32 p f).2, fw T (rX T n 32 p f).1 (sk T n (rX T n 32 p f).1) 4 5)
/-- place and fault stay where they may be -/
def pf (n p f : Int) : Prop := (0 ≤ p ∧ p ≤ n) ∧ -1 ≤ f ∧ f ≤ n
theorem rX_pf {T : Int → Int} {n c p f : Int} (h : pf n p f) : pf n (rX T n c p f).1 (rX T n c p f).2 ∧ p ≤ (rX T n c p f).1 ∧ ((rX T n c p f).2 < 0 → f = -1 ∧ (rX T n c p f).2 = -1 ∧ p < (rX T n c p f).1) := by
  unfold rX
  unfold pf at *
  by_cases c1 : 0 ≤ f
  · rw [if_pos c1]; simp only; omega
  · rw [if_neg c1]
    by_cases c2 : p < n ∧ T p = c
    · rw [if_pos c2]; simp only; omega
    · rw [if_neg c2]; simp only; omega
theorem rN_pf {T : Int → Int} {n p f : Int} (h : pf n p f) : pf n (rN T n p f).1 (rN T n p f).2.1 ∧ p ≤ (rN T n p f).1 ∧ ((rN T n p f).2.1 < 0 → f = -1 ∧ (rN T n p f).2.1 = -1 ∧ p + 1 < (rN T n p f).1) ∧ (0 ≤ (rN T n p f).2.2 ∧ (rN T n p f).2.2 ≤ 99) := by
  have x := rX_pf (T := T) (c := 32) h
  unfold rN
  generalize rX T n 32 p f = r at *
  unfold pf at *
  by_cases c1 : 0 ≤ r.2
  · rw [if_pos c1]; simp only; omega
  · rw [if_neg c1]
    cases c2 : isD T n r.1 with
    | true =>
      have d1 := isD_t c2
      rw [if_pos rfl]
      cases c3 : isD T n (r.1 + 1) with
      | true =>
        have d2 := isD_t c3
        rw [if_pos rfl]; simp only; omega
      | false => rw [if_neg (by decide)]; simp only; omega
    | false => rw [if_neg (by decide)]; simp only; omega
theorem rK_pf {T : Int → Int} {n p : Int} (h : 0 ≤ p ∧ p ≤ n) : pf n (rK T n p).1 (rK T n p).2.1 ∧ p ≤ (rK T n p).1 ∧ ((rK T n p).2.1 < 0 → (rK T n p).2.1 = -1 ∧ p + 3 ≤ (rK T n p).1 ∧ (1 ≤ (rK T n p).2.2 → p + 4 ≤ (rK T n p).1)) ∧ (0 ≤ (rK T n p).2.2 ∧ (rK T n p).2.2 ≤ 3) := by
  have b := sk_b (T := T) h.2
  have w := fw_b T p (sk T n p) 0 4
  have l := fw_len (T := T) (p := p) (q := sk T n p) (a := 0) (b := 4) (by omega)
  unfold rK pf
  by_cases c1 : fw T p (sk T n p) 0 4 < 0
  · rw [if_pos c1]; simp only; omega
  · have := l (by omega)
    rw [if_neg c1]
    exact ⟨⟨⟨show 0 ≤ sk T n p by omega, show sk T n p ≤ n by omega⟩, show (-1 : Int) ≤ -1 by omega, show (-1 : Int) ≤ n by omega⟩, show p ≤ sk T n p by omega, fun _ => ⟨rfl, show p + 3 ≤ sk T n p by omega, fun z => show p + 4 ≤ sk T n p by have := fw_len4 z; omega⟩, show 0 ≤ fw T p (sk T n p) 0 4 by omega, show fw T p (sk T n p) 0 4 ≤ 3 by omega⟩
theorem rS_pf {T : Int → Int} {n p f : Int} (h : pf n p f) : pf n (rS T n p f).1 (rS T n p f).2.1 ∧ p ≤ (rS T n p f).1 ∧ ((rS T n p f).2.1 < 0 → f = -1 ∧ (rS T n p f).2.1 = -1 ∧ p ≤ (rS T n p f).1) ∧ (0 ≤ (rS T n p f).2.2 ∧ (rS T n p f).2.2 ≤ 4) := by
  have x := rX_pf (T := T) (c := 32) h
  unfold rS
  generalize rX T n 32 p f = r at *
  unfold pf at *
  have b := sk_b (T := T) (n := n) (p := r.1) (by omega)
  have w := fw_b T r.1 (sk T n r.1) 4 5
  by_cases c1 : 0 ≤ r.2
  · rw [if_pos c1]; simp only; omega
  · rw [if_neg c1]
    by_cases c2 : fw T r.1 (sk T n r.1) 4 5 < 0
    · rw [if_pos c2]; simp only; omega
    · rw [if_neg c2]; simp only; omega
theorem rN_f {T : Int → Int} {n p f : Int} (h : 0 ≤ f) : rN T n p f = (p, f, 0) := by
  have e : rX T n 32 p f = (p, f) := by unfold rX; rw [if_pos h]
  unfold rN; rw [e, if_pos h]
theorem rS_f {T : Int → Int} {n p f : Int} (h : 0 ≤ f) : rS T n p f = (p, f, 0) := by
  have e : rX T n 32 p f = (p, f) := by unfold rX; rw [if_pos h]
  unfold rS; rw [e, if_pos h]
/-- the parts of a part -/
def pA (T : Int → Int) (n p : Int) : R3 := rK T n p
def pB (T : Int → Int) (n p : Int) : R3 := rN T n (pA T n p).1 (pA T n p).2.1
def pC (T : Int → Int) (n p : Int) : R3 := if (pA T n p).2.2 ≤ 1 then rN T n (pB T n p).1 (pB T n p).2.1 else ((pB T n p).1, (pB T n p).2.1, 0)
def pD (T : Int → Int) (n p : Int) : R3 := if (pA T n p).2.2 = 0 then rS T n (pC T n p).1 (pC T n p).2.1 else ((pC T n p).1, (pC T n p).2.1, 0)
theorem pB_pf {T : Int → Int} {n p : Int} (h : 0 ≤ p ∧ p ≤ n) : pf n (pB T n p).1 (pB T n p).2.1 ∧ p ≤ (pB T n p).1 ∧ ((pB T n p).2.1 < 0 → (pA T n p).2.1 = -1 ∧ (pB T n p).2.1 = -1 ∧ p + 5 ≤ (pB T n p).1 ∧ (1 ≤ (pA T n p).2.2 → p + 6 ≤ (pB T n p).1)) ∧ (0 ≤ (pB T n p).2.2 ∧ (pB T n p).2.2 ≤ 99) := by
  have a := rK_pf (T := T) h
  have b := rN_pf (T := T) a.1
  unfold pB pA
  refine ⟨b.1, by omega, fun z => ?_, b.2.2.2⟩
  have b3 := b.2.2.1 z
  have a3 := a.2.2.1 (by omega)
  exact ⟨b3.1, b3.2.1, by omega, fun y => by have := a3.2.2 y; omega⟩
theorem pC_pf {T : Int → Int} {n p : Int} (h : 0 ≤ p ∧ p ≤ n) : pf n (pC T n p).1 (pC T n p).2.1 ∧ p ≤ (pC T n p).1 ∧ ((pC T n p).2.1 < 0 → (pB T n p).2.1 = -1 ∧ (pC T n p).2.1 = -1 ∧ p + 6 ≤ (pC T n p).1) ∧ (0 ≤ (pC T n p).2.2 ∧ (pC T n p).2.2 ≤ 99) := by
  have a := pB_pf (T := T) h
  have b := rN_pf (T := T) a.1
  unfold pC
  by_cases c : (pA T n p).2.2 ≤ 1
  · rw [if_pos c]
    refine ⟨b.1, by omega, fun z => ?_, b.2.2.2⟩
    have b3 := b.2.2.1 z
    have a3 := a.2.2.1 (by omega)
    exact ⟨b3.1, b3.2.1, by omega⟩
  · rw [if_neg c]
    refine ⟨a.1, a.2.1, fun z => ?_, show (0 : Int) ≤ 0 ∧ (0 : Int) ≤ 99 by omega⟩
    have := a.2.2.1 z
    exact ⟨this.2.1, this.2.1, this.2.2.2 (by omega)⟩
theorem pD_pf {T : Int → Int} {n p : Int} (h : 0 ≤ p ∧ p ≤ n) : pf n (pD T n p).1 (pD T n p).2.1 ∧ ((pD T n p).2.1 < 0 → (pC T n p).2.1 = -1 ∧ (pD T n p).2.1 = -1 ∧ p + 6 ≤ (pD T n p).1) ∧ (0 ≤ (pD T n p).2.2 ∧ (pD T n p).2.2 ≤ 4) := by
  have a := pC_pf (T := T) h
  have b := rS_pf (T := T) a.1
  unfold pD
  by_cases c : (pA T n p).2.2 = 0
  · rw [if_pos c]
    refine ⟨b.1, fun z => ?_, b.2.2.2⟩
    have b3 := b.2.2.1 z
    have a3 := a.2.2.1 (by omega)
    exact ⟨b3.1, b3.2.1, by omega⟩
  · rw [if_neg c]
    refine ⟨a.1, fun z => ?_, show (0 : Int) ≤ 0 ∧ (0 : Int) ≤ 4 by omega⟩
    have := a.2.2.1 z
    exact ⟨this.2.1, this.2.1, this.2.2⟩
/-- where the k-th part begins; whether another one follows it -/
def pl (T : Int → Int) (n : Int) : Nat → Int
  | 0 => 0
  | k + 1 => (pD T n (pl T n k)).1 + 1
def cont (T : Int → Int) (n : Int) (k : Nat) : Prop := (pD T n (pl T n k)).2.1 < 0 ∧ (pD T n (pl T n k)).1 < n ∧ T (pD T n (pl T n k)).1 = 59
theorem pl_in {T : Int → Int} {n : Int} (h0 : 0 ≤ n) : ∀ k : Nat, (∀ j : Nat, j < k → cont T n j) → 7 * (k : Int) ≤ pl T n k ∧ pl T n k ≤ n := by
  intro k
  induction k with
  | zero => intro _; exact ⟨show 7 * ((0 : Nat) : Int) ≤ 0 by omega, h0⟩
  | succ k ih =>
    intro hc
    have i := ih (fun j hj => hc j (by omega))
    have c := hc k (by omega)
    unfold cont at c
    have b := (pD_pf (T := T) (n := n) (p := pl T n k) (by omega)).2.1 c.1
    rw [pl]
    omega
theorem end_ex {T : Int → Int} {n : Int} (h0 : 0 ≤ n ∧ n ≤ 120) : ∃ K : Nat, (K ≤ 17) ∧ (∀ j : Nat, j < K → cont T n j) ∧ ¬ cont T n K := by
  apply Classical.byContradiction
  intro no
  have all : ∀ k : Nat, k ≤ 18 → ∀ j : Nat, j < k → cont T n j := by
    intro k
    induction k with
    | zero => intro _ j hj; omega
    | succ k ih =>
      intro hk j hj
      by_cases z : j = k
      · subst z
        apply Classical.byContradiction
        intro c
        exact no ⟨j, by omega, ih (by omega), c⟩
      · exact ih (by omega) j (by omega)
  have := pl_in h0.1 18 (all 18 (by omega))
  omega
