/-! threads: stitches -/
def thR (w : Int) (x : Int → Int) : Prop := (∀ t, 0 ≤ t → t < 2 * w → 0 ≤ x t ∧ x t < 2 * w) ∧ (∀ t u, 0 ≤ t → t < 2 * w → 0 ≤ u → u < 2 * w → x t = x u → t = u)
def ag48 (x y : Int → Int) : Prop := ∀ t, 0 ≤ t → t < 48 → x t = y t
theorem gof_at {x : Int → Int} {o u w : Int} (hx : thR w x) (ho : 0 ≤ o ∧ o < 2 * w) (hu : 0 ≤ u ∧ u < 2 * w) (hw : w ≤ 12) (j : Int) : gof x o u j = if j = u then x o else if j = o then x u else if j = 24 + x o then x (24 + x o) + 1 else x j := by
  unfold gof up1
  rfl
theorem gof_thR {x : Int → Int} {o u w : Int} (hx : thR w x) (ho : 0 ≤ o ∧ o < 2 * w) (hu : 0 ≤ u ∧ u < 2 * w) (hw : w ≤ 12) : thR w (gof x o u) := by
  have xo := hx.1 o ho.1 ho.2
  have xu' := hx.1 u hu.1 hu.2
  have at' : ∀ j, 0 ≤ j → j < 2 * w → gof x o u j = if j = u then x o else if j = o then x u else x j := fun j a b => by
    rw [gof_at hx ho hu hw]
    split
    · rfl
    · split
      · rfl
      · rw [if_neg (by omega)]
  refine ⟨fun t a b => ?_, fun t v a b c d e => ?_⟩
  · rw [at' t a b]
    split
    · exact xo
    · split
      · exact xu'
      · exact hx.1 t a b
  · rw [at' t a b, at' v c d] at e
    have io := fun z (h1 : 0 ≤ z) (h2 : z < 2 * w) => hx.2 z o h1 h2 ho.1 ho.2
    have iu := fun z (h1 : 0 ≤ z) (h2 : z < 2 * w) => hx.2 z u h1 h2 hu.1 hu.2
    have tv := hx.2 t v a b c d
    have oo := hx.2 o u ho.1 ho.2 hu.1 hu.2
    by_cases t1 : t = u
    · rw [if_pos t1] at e
      by_cases v1 : v = u
      · omega
      · rw [if_neg v1] at e
        by_cases v2 : v = o
        · rw [if_pos v2] at e; have := oo e; omega
        · rw [if_neg v2] at e; have := io v c d e.symm; omega
    · rw [if_neg t1] at e
      by_cases v1 : v = u
      · rw [if_pos v1] at e
        by_cases t2 : t = o
        · rw [if_pos t2] at e; have := oo e.symm; omega
        · rw [if_neg t2] at e; have := io t a b e; omega
      · rw [if_neg v1] at e
        by_cases t2 : t = o
        · rw [if_pos t2] at e
          by_cases v2 : v = o
          · omega
          · rw [if_neg v2] at e; have := iu v c d e.symm; omega
        · rw [if_neg t2] at e
          by_cases v2 : v = o
          · rw [if_pos v2] at e; have := iu t a b e; omega
          · rw [if_neg v2] at e; exact tv e
theorem gof_ag {x y : Int → Int} {o u w : Int} (hx : thR w x) (ho : 0 ≤ o ∧ o < 2 * w) (hu : 0 ≤ u ∧ u < 2 * w) (hw : w ≤ 12) (h : ag48 x y) : ag48 (gof x o u) (gof y o u) := by
  have xo := hx.1 o ho.1 ho.2
  intro t a b
  unfold gof up1
  rw [← h o (by omega) (by omega), ← h u (by omega) (by omega), ← h (24 + x o) (by omega) (by omega), ← h t a b]
theorem gof_ov {x : Int → Int} {o u w i : Int} (hx : thR w x) (ho : 0 ≤ o ∧ o < 2 * w) (hu : 0 ≤ u ∧ u < 2 * w) (hw : w ≤ 12) (h : ∀ t, 0 ≤ t → t < 2 * w → 0 ≤ x (24 + t) ∧ x (24 + t) ≤ i) : ∀ t, 0 ≤ t → t < 2 * w → 0 ≤ gof x o u (24 + t) ∧ gof x o u (24 + t) ≤ i + 1 := by
  have xo := hx.1 o ho.1 ho.2
  intro t a b
  rw [gof_at hx ho hu hw, if_neg (by omega), if_neg (by omega)]
  have := h t a b
  have := h (x o) xo.1 xo.2
  split <;> omega
/-- a row of threads with overs: it stays one -/
def thW (w i : Int) (x : Int → Int) : Prop := thR w x ∧ ∀ t, 0 ≤ t → t < 2 * w → 0 ≤ x (24 + t) ∧ x (24 + t) ≤ i
theorem thW.gof {x : Int → Int} {o u w i : Int} (hx : thW w i x) (ho : 0 ≤ o ∧ o < 2 * w) (hu : 0 ≤ u ∧ u < 2 * w) (hw : w ≤ 12) : thW w (i + 1) (gof x o u) := ⟨gof_thR hx.1 ho hu hw, gof_ov hx.1 ho hu hw hx.2⟩
theorem thW.mono {x : Int → Int} {w i j : Int} (hx : thW w i x) (h : i ≤ j) : thW w j x := ⟨hx.1, fun t a b => ⟨(hx.2 t a b).1, by have := (hx.2 t a b).2; omega⟩⟩
theorem thW.C {x : Int → Int} {sl w i : Int} (hx : thW w i x) (hs : 0 ≤ sl ∧ sl ≤ w - 2) (hw : w ≤ 12) : thW w (i + 1) (stC sl x) := hx.gof (by omega) (by omega) hw
theorem thW.T {x : Int → Int} {sl w i : Int} (hx : thW w i x) (hs : 0 ≤ sl ∧ sl ≤ w - 2) (hw : w ≤ 12) : thW w (i + 2) (stT sl x) := by
  have := (hx.gof (o := 2 * sl + 1) (u := 2 * sl) (by omega) (by omega) hw).gof (o := 2 * sl + 3) (u := 2 * sl + 2) (by omega) (by omega) hw
  exact this.mono (by omega)
theorem thW.st {x : Int → Int} {sl st w i : Int} (hx : thW w i x) (hs : 0 ≤ sl ∧ sl ≤ w - 2) (hw : w ≤ 12) : thW w (i + 6) (stf sl st x) := by
  unfold stf
  split
  · exact (hx.C hs hw).mono (by omega)
  · split
    · exact (hx.T hs hw).mono (by omega)
    · split
      · exact ((hx.C hs hw).T hs hw).mono (by omega)
      · split
        · exact (((hx.C hs hw).T hs hw).C hs hw).mono (by omega)
        · exact ((((hx.C hs hw).T hs hw).C hs hw).T hs hw).mono (by omega)
theorem C_ag {x y : Int → Int} {sl w i : Int} (hx : thW w i x) (hs : 0 ≤ sl ∧ sl ≤ w - 2) (hw : w ≤ 12) (h : ag48 x y) : ag48 (stC sl x) (stC sl y) := gof_ag hx.1 (by omega) (by omega) hw h
theorem T_ag {x y : Int → Int} {sl w i : Int} (hx : thW w i x) (hs : 0 ≤ sl ∧ sl ≤ w - 2) (hw : w ≤ 12) (h : ag48 x y) : ag48 (stT sl x) (stT sl y) := by
  have h1 := hx.gof (o := 2 * sl + 1) (u := 2 * sl) (by omega) (by omega) hw
  exact gof_ag h1.1 (by omega) (by omega) hw (gof_ag hx.1 (by omega) (by omega) hw h)
theorem st_ag {x y : Int → Int} {sl st w i : Int} (hx : thW w i x) (hs : 0 ≤ sl ∧ sl ≤ w - 2) (hw : w ≤ 12) (h : ag48 x y) : ag48 (stf sl st x) (stf sl st y) := by
  unfold stf
  split
  · exact C_ag hx hs hw h
  · split
    · exact T_ag hx hs hw h
    · split
      · exact T_ag (hx.C hs hw) hs hw (C_ag hx hs hw h)
      · split
        · exact C_ag ((hx.C hs hw).T hs hw) hs hw (T_ag (hx.C hs hw) hs hw (C_ag hx hs hw h))
        · exact T_ag (((hx.C hs hw).T hs hw).C hs hw) hs hw (C_ag ((hx.C hs hw).T hs hw) hs hw (T_ag (hx.C hs hw) hs hw (C_ag hx hs hw h)))
theorem thOK_W {w i : Int} {x : Int → Int} : thOK w i x ↔ thW w (6 * i) x := ⟨fun h => ⟨⟨h.1, h.2.1⟩, h.2.2⟩, fun h => ⟨h.1.1, h.1.2, h.2⟩⟩
/-- the work's part of s, where other places change -/
theorem WFb_of {s s' : Int → Int} (hW : WF s) (e : ∀ i, 0 ≤ i → (i = 0 ∨ i = 1 ∨ i = 4 ∨ 35 ≤ i ∧ i < 125 ∨ 157 ≤ i ∧ i < 1705) → s' i = s i) (h3 : 0 ≤ s' 3 ∧ s' 3 < s 0) : WFb s' := by
  obtain ⟨v1, v2, v3, v4, v5, v6, v7, v8, v9⟩ := hW.2
  have w1 := hW.1.1
  have w2 := hW.1.2.1
  have w4 := hW.1.2.2.2.1
  have et : ∀ i, 0 ≤ i → i ≤ s 4 → ∀ t, 0 ≤ t → t < 48 → tl s' i t = tl s i t := fun i i0 i1 t t0 t1 => by
    unfold tl; rw [e 4 (by omega) (by omega)]
    split
    · rw [e _ (by omega) (by omega)]
    · rw [e _ (by omega) (by omega)]
  unfold WFb
  rw [e 0 (by omega) (by omega), e 1 (by omega) (by omega), e 4 (by omega) (by omega)]
  refine ⟨h3, v2, fun p a b => by rw [e _ (by omega) (by omega)]; exact v3 p a b, fun p a b => by rw [e _ (by omega) (by omega)]; exact v4 p a b, ?_, fun i a b => ?_, fun i j a b c d q => ?_, fun i a b => ?_, fun i a b t c d => ?_⟩
  · rw [← v5]
    have : ∀ n : Nat, n ≤ 30 → cnt s' n = cnt s n := by
      intro n
      induction n with
      | zero => intro _; rfl
      | succ n ih => intro hn; unfold cnt; rw [ih (by omega), e _ (by omega) (by omega)]
    exact this _ (by omega)
  · have x := v6 i a b
    rw [e _ (by omega) (by omega), e (206 + 50 * i) (by omega) (by omega), e _ (by omega) (by omega)]
    exact x
  · rw [e _ (by omega) (by omega), e _ (by omega) (by omega)] at q
    exact v7 i j a b c d q
  · obtain ⟨x1, x2, x3⟩ := v8 i a b
    refine ⟨fun t t0 t1 => by rw [et i a b t t0 (by omega)]; exact x1 t t0 t1, fun t u t0 t1 u0 u1 z => ?_, fun t t0 t1 => by rw [et i a b _ (by omega) (by omega)]; exact x3 t t0 t1⟩
    rw [et i a b t t0 (by omega), et i a b u u0 (by omega)] at z
    exact x2 t u t0 t1 u0 u1 z
  · have x := v6 i a b
    have y := w4 _ x.2.1.1 x.2.1.2
    rw [et (i + 1) (by omega) (by omega) t c d, v9 i a b t c d, e (206 + 50 * i) (by omega) (by omega), e (35 + s (206 + 50 * i)) (by omega) (by omega), e (65 + s (206 + 50 * i)) (by omega) (by omega)]
    exact st_ag (thOK_W.mp (v8 i a (by omega))) (by omega) (by omega) (fun u u0 u1 => (et i a (by omega) u u0 u1).symm) t c d
