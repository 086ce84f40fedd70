/-! joins: the best of all, the first of like ones. A candidate: how many, how far apart, which out for which hang -/
abbrev Cd : Type := Int × Int × (Int → Int)
def bt (b c : Cd) : Bool := decide (b.1 < c.1) || (decide (b.1 = c.1) && decide (c.2.1 < b.2.1))
theorem bt_iff {b c : Cd} : bt b c = true ↔ b.1 < c.1 ∨ (b.1 = c.1 ∧ c.2.1 < b.2.1) := by
  unfold bt; simp
theorem bt_no {b c : Cd} : bt b c = false ↔ ¬ (b.1 < c.1 ∨ (b.1 = c.1 ∧ c.2.1 < b.2.1)) := by
  rw [← bt_iff]; simp
def imp (b c : Cd) : Cd := if bt b c then c else b
theorem imp_t {b c : Cd} (h : bt b c = true) : imp b c = c := by unfold imp; rw [h, if_pos rfl]
theorem imp_f {b c : Cd} (h : bt b c = false) : imp b c = b := by unfold imp; rw [h, if_neg (by decide)]
theorem imp_assoc (a b c : Cd) : imp (imp a b) c = imp a (imp b c) := by
  cases h1 : bt a b with
  | false =>
    rw [imp_f h1]
    cases h2 : bt b c with
    | false =>
      rw [imp_f h2, imp_f h1, imp_f]
      rw [bt_no] at *
      omega
    | true => rw [imp_t h2]
  | true =>
    rw [imp_t h1]
    cases h2 : bt b c with
    | false => rw [imp_f h2, imp_t h1]
    | true =>
      rw [imp_t h2, imp_t]
      rw [bt_iff] at *
      omega
def shf (M A : Int) (g : (Int → Int) → Int → Int) (c : Cd) : Cd := (M + c.1, A + c.2.1, g c.2.2)
theorem shf_bt (M A : Int) (g : (Int → Int) → Int → Int) (b c : Cd) : bt (shf M A g b) (shf M A g c) = bt b c := by
  rw [Bool.eq_iff_iff, bt_iff, bt_iff]
  unfold shf
  simp only
  omega
theorem shf_imp (M A : Int) (g : (Int → Int) → Int → Int) (b c : Cd) : shf M A g (imp b c) = imp (shf M A g b) (shf M A g c) := by
  cases h : bt b c with
  | false => rw [imp_f h, imp_f (by rw [shf_bt]; exact h)]
  | true => rw [imp_t h, imp_t (by rw [shf_bt]; exact h)]
def wv (c : Cd) : Int := 1000 * c.1 - c.2.1
def sm (c : Cd) : Prop := 0 ≤ c.2.1 ∧ c.2.1 ≤ 500
theorem wv_bt {b c : Cd} (hb : sm b) (hc : sm c) : bt b c = true ↔ wv b < wv c := by
  rw [bt_iff]; unfold wv; unfold sm at hb hc; omega
theorem wv_imp {b c : Cd} (hb : sm b) (hc : sm c) : wv (imp b c) = max (wv b) (wv c) := by
  cases h : bt b c with
  | false =>
    rw [imp_f h]
    have : ¬ wv b < wv c := fun z => by rw [(wv_bt hb hc).mpr z] at h; cases h
    omega
  | true =>
    rw [imp_t h]
    have := (wv_bt hb hc).mp h
    omega
theorem sm_imp {b c : Cd} (hb : sm b) (hc : sm c) : sm (imp b c) := by
  unfold imp; split
  · exact hc
  · exact hb
def okj (X Y : Int → Int) (i : Int) (S o : Nat) : Bool := !S.testBit o && decide (Y o / 16 < X i / 16)
def dfj (X Y : Int → Int) (i o : Int) : Int := max (Y o % 16 - X i % 16) (-(Y o % 16 - X i % 16))
theorem dfj_in (X Y : Int → Int) (i o : Int) : 0 ≤ dfj X Y i o ∧ dfj X Y i o ≤ 15 := by unfold dfj; omega
def pre1 (i o df : Int) : Cd → Cd := shf 1 df (fun g => up1 g i o)
def pre0 (i : Int) : Cd → Cd := shf 0 0 (fun g => up1 g i (-1))
def fo (X Y : Int → Int) (i : Int) (S : Nat) (f : Nat → Cd) : Nat → Cd
  | 0 => (-1000, 0, fun _ => 0)
  | k + 1 => if okj X Y i S k then imp (fo X Y i S f k) (pre1 i k (dfj X Y i k) (f (S ||| 2 ^ k))) else fo X Y i S f k
def fm (X Y : Int → Int) (O : Nat) : Nat → Int → Nat → Cd
  | 0, _, _ => (0, 0, fun _ => 0)
  | n + 1, i, S => imp (fo X Y i S (fm X Y O n (i + 1)) O) (pre0 i (fm X Y O n (i + 1) S))
def cb (n : Int) (c : Cd) : Prop := (0 ≤ c.1 ∧ c.1 ≤ n) ∧ 0 ≤ c.2.1 ∧ c.2.1 ≤ 15 * n
theorem fo_b {X Y : Int → Int} {i : Int} {S : Nat} {f : Nat → Cd} {n : Int} (hn : 0 ≤ n) (hf : ∀ S', cb n (f S')) : ∀ k, (fo X Y i S f k).1 ≤ n + 1 ∧ 0 ≤ (fo X Y i S f k).2.1 ∧ (fo X Y i S f k).2.1 ≤ 15 * (n + 1) ∧ ((fo X Y i S f k).1 = -1000 ∨ 1 ≤ (fo X Y i S f k).1) := by
  intro k
  induction k with
  | zero => exact ⟨show (-1000 : Int) ≤ n + 1 by omega, show (0 : Int) ≤ 0 by omega, show (0 : Int) ≤ 15 * (n + 1) by omega, Or.inl rfl⟩
  | succ k ih =>
    unfold fo
    split
    · have h1 := hf (S ||| 2 ^ k)
      have h2 := dfj_in X Y i k
      unfold cb at h1
      unfold imp
      split
      · unfold pre1 shf; simp only; omega
      · exact ih
    · exact ih
theorem fm_b {X Y : Int → Int} {O : Nat} : ∀ (n : Nat) (i : Int) (S : Nat), cb n (fm X Y O n i S) := by
  intro n
  induction n with
  | zero => intro i S; unfold fm cb; simp
  | succ n ih =>
    intro i S
    unfold fm
    have h1 := fo_b (X := X) (Y := Y) (i := i) (S := S) (n := n) (by omega) (ih (i + 1)) O
    have h2 := ih (i + 1) S
    unfold cb at *
    unfold imp
    split
    · unfold pre0 shf; simp only; omega
    · rename_i h
      rw [bt_iff] at h
      unfold pre0 shf at h
      simp only at h
      omega
theorem fm_sm {X Y : Int → Int} {O : Nat} {n : Nat} (hn : n ≤ 10) (i : Int) (S : Nat) : sm (fm X Y O n i S) := by
  have := fm_b (X := X) (Y := Y) (O := O) n i S
  unfold cb at this; unfold sm; omega
theorem fo_sm {X Y : Int → Int} {O : Nat} {n : Nat} (hn : n ≤ 10) (i : Int) (S k : Nat) : sm (fo X Y i S (fm X Y O n (i + 1)) k) := by
  have := fo_b (X := X) (Y := Y) (i := i) (S := S) (n := n) (by omega) (fm_b (X := X) (Y := Y) (O := O) n (i + 1)) k
  unfold sm; omega
theorem pre1_sm {X Y : Int → Int} {O : Nat} {n : Nat} (hn : n ≤ 10) (i j : Int) (S : Nat) (o : Int) : sm (pre1 j o (dfj X Y j o) (fm X Y O n i S)) := by
  have := fm_b (X := X) (Y := Y) (O := O) n i S
  have h2 := dfj_in X Y j o
  unfold cb at this; unfold sm pre1 shf; simp only; omega
theorem pre0_sm {X Y : Int → Int} {O : Nat} {n : Nat} (hn : n ≤ 10) (i j : Int) (S : Nat) : sm (pre0 j (fm X Y O n i S)) := by
  have := fm_b (X := X) (Y := Y) (O := O) n i S
  unfold cb at this; unfold sm pre0 shf; simp only; omega
/-- the first of the best outs -/
theorem fo_first {X Y : Int → Int} {O : Nat} {n : Nat} (hn : n ≤ 10) (i : Int) (S : Nat) : ∀ k : Nat, ((∀ o, o < k → okj X Y i S o = false) ∧ (fo X Y i S (fm X Y O n (i + 1)) k).1 = -1000) ∨
    ∃ o, o < k ∧ okj X Y i S o = true ∧ fo X Y i S (fm X Y O n (i + 1)) k = pre1 i o (dfj X Y i o) (fm X Y O n (i + 1) (S ||| 2 ^ o)) ∧ (∀ o', o' < k → okj X Y i S o' = true → wv (pre1 i o' (dfj X Y i o') (fm X Y O n (i + 1) (S ||| 2 ^ o'))) ≤ wv (fo X Y i S (fm X Y O n (i + 1)) k)) ∧ (∀ o', o' < o → okj X Y i S o' = true → wv (pre1 i o' (dfj X Y i o') (fm X Y O n (i + 1) (S ||| 2 ^ o'))) < wv (fo X Y i S (fm X Y O n (i + 1)) k)) := by
  intro k
  induction k with
  | zero => exact Or.inl ⟨fun o h => by omega, rfl⟩
  | succ k ih =>
    have sF := fo_sm (X := X) (Y := Y) (O := O) hn i S k
    have sP := pre1_sm (X := X) (Y := Y) (O := O) hn (i + 1) i (S ||| 2 ^ k) k
    cases hk : okj X Y i S k with
    | false =>
      have e : fo X Y i S (fm X Y O n (i + 1)) (k + 1) = fo X Y i S (fm X Y O n (i + 1)) k := by
        rw [fo, hk, if_neg (by decide)]
      rw [e]
      rcases ih with ⟨h1, h2⟩ | ⟨o, h1, h2, h3, h4, h5⟩
      · refine Or.inl ⟨fun o ho => ?_, h2⟩
        by_cases z : o = k
        · rw [z]; exact hk
        · exact h1 o (by omega)
      · refine Or.inr ⟨o, by omega, h2, h3, fun o' ho' g => ?_, h5⟩
        by_cases z : o' = k
        · rw [z, hk] at g; cases g
        · exact h4 o' (by omega) g
    | true =>
      have e : fo X Y i S (fm X Y O n (i + 1)) (k + 1) = imp (fo X Y i S (fm X Y O n (i + 1)) k) (pre1 i k (dfj X Y i k) (fm X Y O n (i + 1) (S ||| 2 ^ k))) := by
        rw [fo, hk, if_pos rfl]
      have p1 : 1 ≤ (pre1 i k (dfj X Y i k) (fm X Y O n (i + 1) (S ||| 2 ^ k))).1 := by
        have := fm_b (X := X) (Y := Y) (O := O) n (i + 1) (S ||| 2 ^ k)
        unfold cb at this; unfold pre1 shf; simp only; omega
      rcases ih with ⟨h1, h2⟩ | ⟨o, h1, h2, h3, h4, h5⟩
      · have : bt (fo X Y i S (fm X Y O n (i + 1)) k) (pre1 i k (dfj X Y i k) (fm X Y O n (i + 1) (S ||| 2 ^ k))) = true := by rw [bt_iff]; omega
        rw [e, imp_t this]
        refine Or.inr ⟨k, by omega, hk, rfl, fun o' ho' g => ?_, fun o' ho' g => ?_⟩
        · by_cases z : o' = k
          · rw [z]; exact Int.le_refl _
          · rw [h1 o' (by omega)] at g; cases g
        · rw [h1 o' (by omega)] at g; cases g
      · cases hb : bt (fo X Y i S (fm X Y O n (i + 1)) k) (pre1 i k (dfj X Y i k) (fm X Y O n (i + 1) (S ||| 2 ^ k))) with
        | true =>
          have lt := (wv_bt sF sP).mp hb
          rw [e, imp_t hb]
          refine Or.inr ⟨k, by omega, hk, rfl, fun o' ho' g => ?_, fun o' ho' g => ?_⟩
          · by_cases z : o' = k
            · rw [z]; exact Int.le_refl _
            · have := h4 o' (by omega) g; omega
          · have := h4 o' (by omega) g; omega
        | false =>
          have ge : ¬ wv (fo X Y i S (fm X Y O n (i + 1)) k) < wv (pre1 i k (dfj X Y i k) (fm X Y O n (i + 1) (S ||| 2 ^ k))) := fun z => by rw [(wv_bt sF sP).mpr z] at hb; cases hb
          rw [e, imp_f hb]
          refine Or.inr ⟨o, by omega, h2, h3, fun o' ho' g => ?_, h5⟩
          by_cases z : o' = k
          · rw [z]; omega
          · exact h4 o' (by omega) g
theorem fm_first {X Y : Int → Int} {O n : Nat} (hn : n ≤ 10) (i : Int) (S : Nat) : (∃ o, o < O ∧ okj X Y i S o = true ∧ wv (pre1 i o (dfj X Y i o) (fm X Y O n (i + 1) (S ||| 2 ^ o))) = wv (fm X Y O (n + 1) i S) ∧ (∀ o', o' < o → okj X Y i S o' = true → wv (pre1 i o' (dfj X Y i o') (fm X Y O n (i + 1) (S ||| 2 ^ o'))) ≠ wv (fm X Y O (n + 1) i S)) ∧ fm X Y O (n + 1) i S = pre1 i o (dfj X Y i o) (fm X Y O n (i + 1) (S ||| 2 ^ o))) ∨
    ((∀ o, o < O → okj X Y i S o = true → wv (pre1 i o (dfj X Y i o) (fm X Y O n (i + 1) (S ||| 2 ^ o))) ≠ wv (fm X Y O (n + 1) i S)) ∧ fm X Y O (n + 1) i S = pre0 i (fm X Y O n (i + 1) S)) := by
  have e : fm X Y O (n + 1) i S = imp (fo X Y i S (fm X Y O n (i + 1)) O) (pre0 i (fm X Y O n (i + 1) S)) := by rw [fm]
  have sF := fo_sm (X := X) (Y := Y) (O := O) hn i S O
  have sN := pre0_sm (X := X) (Y := Y) (O := O) hn (i + 1) i S
  have b0 : 0 ≤ (pre0 i (fm X Y O n (i + 1) S)).1 := by
    have := fm_b (X := X) (Y := Y) (O := O) n (i + 1) S
    unfold cb at this; unfold pre0 shf; simp only; omega
  rcases fo_first (X := X) (Y := Y) (O := O) hn i S O with ⟨h1, h2⟩ | ⟨o, h1, h2, h3, h4, h5⟩
  · have : bt (fo X Y i S (fm X Y O n (i + 1)) O) (pre0 i (fm X Y O n (i + 1) S)) = true := by rw [bt_iff]; omega
    exact Or.inr ⟨fun o ho g => (by rw [h1 o ho] at g; cases g), by rw [e, imp_t this]⟩
  · cases hb : bt (fo X Y i S (fm X Y O n (i + 1)) O) (pre0 i (fm X Y O n (i + 1) S)) with
    | true =>
      have lt := (wv_bt sF sN).mp hb
      rw [e, imp_t hb]
      exact Or.inr ⟨fun o' ho' g => by have := h4 o' ho' g; omega, rfl⟩
    | false =>
      rw [e, imp_f hb]
      exact Or.inl ⟨o, h1, h2, by rw [h3], fun o' ho' g => by have := h5 o' ho' g; omega, h3⟩
