/-! work: threads of both sides -/
/-- without counting -/
def gsw (x : Int → Int) (o u : Int) : Int → Int := up1 (up1 x o (x u)) u (x o)
def gofb (b : Bool) (x : Int → Int) (o u : Int) : Int → Int := if b then gof x o u else gsw x o u
def thv (h : xH) : Int → Int := fun t => h 1 (157 + t)
theorem M_goes {d : Nat} {o u : Int} {b : Bool} {w : Int} {h : xH} {Q : xH → Prop} (hT : thR w (thv h)) (hw : w ≤ 12) (ho : 0 ≤ o ∧ o < 2 * w) (hu : 0 ≤ u ∧ u < 2 * w)
    (hq : ∀ h', kp [1] h h' → (∀ j, (j < 157 ∨ 205 ≤ j) → h' 1 j = h 1 j) → thv h' = gofb b (thv h) o u → Q h') : cV wdM d mX8_goes [.inr (.inr 0), .inl o, .inl u, .inl (b2i b)] h Q := by
  have xo : 0 ≤ h 1 (157 + o) ∧ h 1 (157 + o) < 2 * w := hT.1 o ho.1 ho.2
  refine sg_X8_goes_0 ⟨by omega, b2i_in b, fun z => ⟨by omega, by omega, by omega, hq _ (kp_tr (kp_xu (by decide)) (kp_xu (by decide))) (fun j hj => ?_) ?_⟩, fun z => ⟨by omega, by omega, by omega, by omega, by omega, hq _ (kp_tr (kp_tr (kp_xu (by decide)) (kp_xu (by decide))) (kp_xu (by decide))) (fun j hj => ?_) ?_⟩⟩
  · simp (disch := omega) only [xu_ne]
  · have hb : b = false := by cases b with
      | false => rfl
      | true => exact absurd z (by decide)
    rw [hb]
    funext t
    simp only [gofb, gsw, thv, up1, xu, Bool.false_eq_true, if_false, true_and]
    have e1 : (157 + t = 157 + u) ↔ t = u := by omega
    have e2 : (157 + t = 157 + o) ↔ t = o := by omega
    simp only [e1, e2]
  · simp (disch := omega) only [xu_ne]
  · have hb : b = true := by cases b with
      | true => rfl
      | false => exact absurd rfl z
    rw [hb]
    funext t
    simp only [gofb, gof, thv, up1, xu, if_true, true_and]
    have e1 : (157 + t = 157 + u) ↔ t = u := by omega
    have e2 : (157 + t = 157 + o) ↔ t = o := by omega
    have e3 : (157 + t = 181 + h 1 (157 + o)) ↔ t = 24 + h 1 (157 + o) := by omega
    have e4 : ¬ (157 + u = 181 + h 1 (157 + o)) := by omega
    have e5 : (157 : Int) + (24 + h 1 (157 + o)) = 181 + h 1 (157 + o) := by omega
    simp only [e1, e2, e3, e4, e5, if_false]
theorem gofb_thR {x : Int → Int} {o u w : Int} {b : Bool} (hx : thR w x) (ho : 0 ≤ o ∧ o < 2 * w) (hu : 0 ≤ u ∧ u < 2 * w) (hw : w ≤ 12) : thR w (gofb b x o u) := by
  have h1 := gof_thR hx ho hu hw
  cases b with
  | true => exact h1
  | false =>
    have e : ∀ t, 0 ≤ t → t < 2 * w → gofb false x o u t = gof x o u t := fun t a b => by
      have := hx.1 o ho.1 ho.2
      simp only [gofb, gsw, gof, up1, Bool.false_eq_true, if_false]
      rw [if_neg (show ¬ t = 24 + x o by omega)]
    refine ⟨fun t a b => by rw [e t a b]; exact h1.1 t a b, fun t v a b c d z => ?_⟩
    rw [e t a b, e v c d] at z
    exact h1.2 t v a b c d z
def sbC (b : Bool) (sl : Int) (x : Int → Int) : Int → Int := gofb b x (2 * sl + 1) (2 * sl + 2)
def sbT (b : Bool) (sl : Int) (x : Int → Int) : Int → Int := gofb b (gofb b x (2 * sl + 1) (2 * sl)) (2 * sl + 3) (2 * sl + 2)
def sbf (b : Bool) (sl st : Int) (x : Int → Int) : Int → Int :=
  if st = 0 then sbC b sl x else if st = 1 then sbT b sl x else if st = 2 then sbT b sl (sbC b sl x) else if st = 3 then sbC b sl (sbT b sl (sbC b sl x)) else sbT b sl (sbC b sl (sbT b sl (sbC b sl x)))
theorem sbf_t (sl st : Int) (x : Int → Int) : sbf true sl st x = stf sl st x := rfl
theorem M_crosses {d : Nat} {sl w : Int} {b : Bool} {h : xH} {Q : xH → Prop} (hd : 1 ≤ d) (hT : thR w (thv h)) (hw : w ≤ 12) (hs : 0 ≤ sl ∧ sl ≤ w - 2)
    (hq : ∀ h', kp [1] h h' → (∀ j, (j < 157 ∨ 205 ≤ j) → h' 1 j = h 1 j) → thv h' = sbC b sl (thv h) → thR w (thv h') → Q h') : cV wdM d mX8_crosses [.inr (.inr 0), .inl sl, .inl (b2i b)] h Q :=
  sg_X8_crosses_0 hd (M_goes hT hw (by omega) (by omega) (fun h' k j e => hq h' k j e (by rw [e]; exact gofb_thR hT (by omega) (by omega) hw)))
theorem M_twists {d : Nat} {sl w : Int} {b : Bool} {h : xH} {Q : xH → Prop} (hd : 1 ≤ d) (hT : thR w (thv h)) (hw : w ≤ 12) (hs : 0 ≤ sl ∧ sl ≤ w - 2)
    (hq : ∀ h', kp [1] h h' → (∀ j, (j < 157 ∨ 205 ≤ j) → h' 1 j = h 1 j) → thv h' = sbT b sl (thv h) → thR w (thv h') → Q h') : cV wdM d mX8_twists [.inr (.inr 0), .inl sl, .inl (b2i b)] h Q := by
  refine sg_X8_twists_0 hd (M_goes hT hw (by omega) (by omega) (fun h1 k1 j1 e1 => ?_))
  have t1 : thR w (thv h1) := by rw [e1]; exact gofb_thR hT (by omega) (by omega) hw
  refine M_goes t1 hw (by omega) (by omega) (fun h2 k2 j2 e2 => hq h2 (kp_tr k1 k2) (fun j hj => (j2 j hj).trans (j1 j hj)) ?_ (by rw [e2]; exact gofb_thR t1 (by omega) (by omega) hw))
  rw [e2, e1]; rfl
theorem M_stitches {d : Nat} {sl st w : Int} {b : Bool} {h : xH} {Q : xH → Prop} (hd : 2 ≤ d) (hT : thR w (thv h)) (hw : w ≤ 12) (hs : 0 ≤ sl ∧ sl ≤ w - 2) (hst : 0 ≤ st ∧ st ≤ 4)
    (hq : ∀ h', kp [1] h h' → (∀ j, (j < 157 ∨ 205 ≤ j) → h' 1 j = h 1 j) → thv h' = sbf b sl st (thv h) → Q h') : cV wdM d mX8_stitches [.inr (.inr 0), .inl sl, .inl st, .inl (b2i b)] h Q := by
  have i5 : inI st := inI_s (by omega) (by omega)
  refine sg_X8_stitches_0 (by omega) ⟨i5, fun z => ⟨i5, by omega, fun _ => M_twists (by omega) hT hw hs (fun h1 k1 j1 e1 t1 => ⟨i5, fun _ => ⟨i5, fun _ => hq h1 k1 j1 ?_, by omega⟩, by omega⟩)⟩, fun z => M_crosses (by omega) hT hw hs (fun h1 k1 j1 e1 t1 => ⟨i5, fun z2 => ⟨i5, fun _ => ⟨i5, fun _ => hq h1 k1 j1 ?_, by omega⟩, by omega⟩, fun z2 => M_twists (by omega) t1 hw hs (fun h2 k2 j2 e2 t2 => ⟨i5, fun z3 => ⟨i5, fun _ => hq h2 (kp_tr k1 k2) (fun j hj => (j2 j hj).trans (j1 j hj)) ?_, by omega⟩, fun z3 => M_crosses (by omega) t2 hw hs (fun h3 k3 j3 e3 t3 => ⟨i5, fun z4 => hq h3 (kp_tr (kp_tr k1 k2) k3) (fun j hj => (j3 j hj).trans ((j2 j hj).trans (j1 j hj))) ?_, fun z4 => M_twists (by omega) t3 hw hs (fun h4 k4 j4 e4 t4 => hq h4 (kp_tr (kp_tr (kp_tr k1 k2) k3) k4) (fun j hj => (j4 j hj).trans ((j3 j hj).trans ((j2 j hj).trans (j1 j hj)))) ?_)⟩)⟩)⟩)⟩
  · unfold sbf; rw [if_neg (by omega), if_pos z]; exact e1
  · unfold sbf; rw [if_pos (by omega)]; exact e1
  · unfold sbf; rw [if_neg (by omega), if_neg z, if_pos (by omega), e2, e1]
  · unfold sbf; rw [if_neg (by omega), if_neg z, if_neg (by omega), if_pos (by omega), e3, e2, e1]
  · unfold sbf; rw [if_neg (by omega), if_neg z, if_neg (by omega), if_neg (by omega), e4, e3, e2, e1]
/-- a pin is worked: the reference's row -/
def wk (s : Int → Int) (p : Int) : Int → Int := fun i =>
  if i = 3 then s (35 + p) else if i = 4 then s 4 + 1 else if i = 95 + p then 1 else if 157 ≤ i ∧ i < 205 then stf (s (35 + p)) (s (65 + p)) (fun t => s (157 + t)) (i - 157)
  else if i = 205 + 50 * s 4 then s 3 else if i = 206 + 50 * s 4 then p else if 207 + 50 * s 4 ≤ i ∧ i < 255 + 50 * s 4 then s (157 + (i - (207 + 50 * s 4))) else s i
theorem M_works {d : Nat} {p : Int} {h : xH} {Q : xH → Prop} (hd : 3 ≤ d) (hW : WF (h 1)) (hp : 0 ≤ p ∧ p < h 1 1) (h4 : h 1 4 < 30) (hq : ∀ h', kp [1] h h' → h' 1 = wk (h 1) p → Q h') : cV wdM d mX8_works [.inr (.inr 0), .inl p] h Q := by
  obtain ⟨w1, w2, w3, w4, w5, w6, w7, w8⟩ := id hW.1
  have v2 := hW.2.2.1
  have a := w4 p hp.1 hp.2
  obtain ⟨n1, n2, n3⟩ := th_now hW
  generalize hc : h 1 4 = c at *
  refine sg_X8_works_0 ?_
  rw [hc]
  refine ⟨by omega, by omega, ?_⟩
  have lp : ∀ t : Int, t ≤ 48 → 0 ≤ t → ∀ h1 : xH, kp [1] h h1 → (∀ j, h1 1 j = if j = 205 + 50 * c then h 1 3 else if j = 206 + 50 * c then p else if 207 + 50 * c ≤ j ∧ j < 207 + 50 * c + t then h 1 (157 + (j - (207 + 50 * c))) else h 1 j) → gV wdM d mX8_works 37 [some (.inr (.inr 0)), some (.inl p), some (.inl (205 + 50 * c)), some (.inl t)] h1 Q := by
    refine dn ?_ ?_
    · intro _ h1 k hj
      have lo : ∀ j, j < 205 → h1 1 j = h 1 j := fun j hh => by rw [hj, if_neg (by omega), if_neg (by omega), if_neg (by omega)]
      have tv : ∀ t, t < 48 → thv h1 t = thv h t := fun t hh => lo _ (by omega)
      have e35 := lo (35 + p) (by omega)
      have e65 := lo (65 + p) (by omega)
      have hT : thR (h 1 0) (thv h1) := by
        refine ⟨fun t a b => by rw [tv t (by omega)]; exact n1 t a b, fun t u a b c d e => ?_⟩
        rw [tv t (by omega), tv u (by omega)] at e
        exact n2 t u a b c d e
      refine sg_X8_works_37 (by omega) ⟨inI_s (by omega) (by omega), fun _ => ⟨by omega, by omega, ?_⟩, fun z => absurd z (by omega)⟩
      rw [e35, e65, show (1 : Int) = b2i true from rfl]
      refine M_stitches (by omega) hT (by omega) (by omega) (by omega) (fun h2 k2 j2 e2 => ⟨by omega, by omega, ?_⟩)
      rw [sbf_t] at e2
      have x4 : h2 1 4 = c := by rw [j2 4 (by omega), lo 4 (by omega)]; exact hc
      have x35 : h2 1 (35 + p) = h 1 (35 + p) := by rw [j2 _ (by omega)]; exact e35
      simp (disch := omega) only [xu_ne]
      rw [x4, x35]
      refine hq _ (kp_tr (kp_tr k k2) (kp_tr (kp_tr (kp_xu (by decide)) (kp_xu (by decide))) (kp_xu (by decide)))) ?_
      funext i
      unfold wk
      rw [hc]
      by_cases z3 : i = 3
      · rw [if_pos z3, z3, xu_eq]
      · rw [if_neg z3, xu_ne z3]
        by_cases z4 : i = 4
        · rw [if_pos z4, z4, xu_eq]; rfl
        · rw [if_neg z4, xu_ne z4]
          by_cases z95 : i = 95 + p
          · rw [if_pos z95, z95, xu_eq]; rfl
          · rw [if_neg z95, xu_ne z95]
            by_cases zt : 157 ≤ i ∧ i < 205
            · rw [if_pos zt]
              have := congrFun e2 (i - 157)
              unfold thv at this
              rw [show 157 + (i - 157) = i by omega] at this
              rw [this]
              -- the stitch reads 0 .. 47 alone
              have hw0 : thW (h 1 0) 180 (fun t => h1 1 (157 + t)) := ⟨hT, fun t a b => by
                have q := n3 t a b
                have q2 := tv (24 + t) (by omega)
                unfold thv at q2
                show 0 ≤ h1 1 (157 + (24 + t)) ∧ h1 1 (157 + (24 + t)) ≤ 180
                rw [q2, show 157 + (24 + t) = 181 + t by omega]; omega⟩
              exact st_ag hw0 (by omega) (by omega) (fun u _ u1 => tv u u1) (i - 157) (by omega) (by omega)
            · rw [if_neg zt, j2 i (by omega), hj]
              by_cases y1 : i = 205 + 50 * c
              · rw [if_pos y1, if_pos y1]
              · rw [if_neg y1, if_neg y1]
                by_cases y2 : i = 206 + 50 * c
                · rw [if_pos y2, if_pos y2]
                · rw [if_neg y2, if_neg y2]
                  by_cases y3 : 207 + 50 * c ≤ i ∧ i < 255 + 50 * c
                  · rw [if_pos (by omega), if_pos y3]
                  · rw [if_neg (by omega), if_neg y3]
    · intro t ht ih t0 h1 k hj
      refine sg_X8_works_37 (by omega) ⟨inI_s (by omega) (by omega), fun z => absurd z (by omega), fun _ => ⟨by omega, by omega, ih (by omega) _ (kp_tr k (kp_xu (by decide))) (fun j => ?_)⟩⟩
      by_cases z : j = 205 + 50 * c + 2 + t
      · rw [z, xu_eq, if_neg (by omega), if_neg (by omega), if_pos (by omega), hj, if_neg (by omega), if_neg (by omega), if_neg (by omega), show 205 + 50 * c + 2 + t - (207 + 50 * c) = t by omega]
      · rw [xu_ne z, hj]
        split
        · rfl
        · split
          · rfl
          · by_cases y : 207 + 50 * c ≤ j ∧ j < 207 + 50 * c + t
            · rw [if_pos y, if_pos (by omega)]
            · rw [if_neg y, if_neg (by omega)]
  refine lp 0 (by omega) (by omega) _ (kp_tr (kp_xu (by decide)) (kp_xu (by decide))) (fun j => ?_)
  by_cases z : j = 205 + 50 * c + 1
  · rw [z, xu_eq, if_neg (by omega), if_pos (by omega)]
  · rw [xu_ne z]
    by_cases y : j = 205 + 50 * c
    · rw [y, xu_eq, if_pos rfl]
    · rw [xu_ne y, if_neg y, if_neg (by omega), if_neg (by omega)]
/-- the class's threads and overs -/
def xth (h : xH) : Int → Int := fun t => if t < 24 then h 7 t else h 8 (t - 24)
theorem C_changePlaces {d : Nat} {o u : Int} {h : xH} {Q : xH → Prop} (ho : 0 ≤ o ∧ o < 24) (hu : 0 ≤ u ∧ u < 24) (hq : Q (xu (xu h 7 o (h 7 u)) 7 u (h 7 o))) : cV wdC d mX0_changePlaces [.inr (.inr 6), .inl o, .inl u] h Q :=
  sg_X0_changePlaces_0 ⟨ho, hu, ho, hu, hq⟩
/-- the same in the places that are used -/
def agW (w : Int) (x y : Int → Int) : Prop := ∀ t, 0 ≤ t → t < 2 * w → x t = y t ∧ x (24 + t) = y (24 + t)
theorem gof_agW0 {x y : Int → Int} {o u w : Int} (xo : 0 ≤ x o ∧ x o < 2 * w) (h : agW w x y) (ho : 0 ≤ o ∧ o < 2 * w) (hu : 0 ≤ u ∧ u < 2 * w) : agW w (gof x o u) (gof y o u) := by
  intro t a b
  unfold gof up1
  rw [← (h o ho.1 ho.2).1, ← (h u hu.1 hu.2).1, ← (h (x o) xo.1 xo.2).2, ← (h t a b).1, ← (h t a b).2]
  exact ⟨rfl, rfl⟩
theorem agW.gof {x y : Int → Int} {o u w : Int} (hx : thR w x) (ho : 0 ≤ o ∧ o < 2 * w) (hu : 0 ≤ u ∧ u < 2 * w) (hw : w ≤ 12) (h : agW w x y) : agW w (gof x o u) (gof y o u) := by
  have xo := hx.1 o ho.1 ho.2
  intro t a b
  exact gof_agW0 xo h ho hu t a b
theorem agW.C {x y : Int → Int} {sl w : Int} (hx : thR w x) (hs : 0 ≤ sl ∧ sl ≤ w - 2) (hw : w ≤ 12) (h : agW w x y) : agW w (stC sl x) (stC sl y) := h.gof hx (by omega) (by omega) hw
theorem agW.T {x y : Int → Int} {sl w : Int} (hx : thR w x) (hs : 0 ≤ sl ∧ sl ≤ w - 2) (hw : w ≤ 12) (h : agW w x y) : agW w (stT sl x) (stT sl y) :=
  (h.gof hx (by omega) (by omega) hw).gof (gof_thR hx (by omega) (by omega) hw) (by omega) (by omega) hw
theorem agW.st {x y : Int → Int} {sl st w i : Int} (hx : thW w i x) (hs : 0 ≤ sl ∧ sl ≤ w - 2) (hw : w ≤ 12) (h : agW w x y) : agW w (stf sl st x) (stf sl st y) := by
  unfold stf
  split
  · exact h.C hx.1 hs hw
  · split
    · exact h.T hx.1 hs hw
    · split
      · exact (h.C hx.1 hs hw).T (hx.C hs hw).1 hs hw
      · split
        · exact ((h.C hx.1 hs hw).T (hx.C hs hw).1 hs hw).C ((hx.C hs hw).T hs hw).1 hs hw
        · exact (((h.C hx.1 hs hw).T (hx.C hs hw).1 hs hw).C ((hx.C hs hw).T hs hw).1 hs hw).T (((hx.C hs hw).T hs hw).C hs hw).1 hs hw
theorem C_goOver {d : Nat} {o u w : Int} {h : xH} {x : Int → Int} {Q : xH → Prop} (hd : 1 ≤ d) (hx : thR w x) (hw : w ≤ 12) (ho : 0 ≤ o ∧ o < 2 * w) (hu : 0 ≤ u ∧ u < 2 * w) (ha : agW w (xth h) x)
    (hq : ∀ h', kp [7, 8] h h' → agW w (xth h') (gof x o u) → Q h') : cV wdC d mX0_goOver [.inr (.inr 6), .inl o, .inl u] h Q := by
  have xo := hx.1 o ho.1 ho.2
  have e7 : ∀ t, 0 ≤ t → t < 2 * w → h 7 t = x t := fun t a b => by have := (ha t a b).1; unfold xth at this; rw [if_pos (by omega)] at this; exact this
  have e8 : ∀ t, 0 ≤ t → t < 2 * w → h 8 t = x (24 + t) := fun t a b => by have := (ha t a b).2; unfold xth at this; rw [if_neg (by omega), show 24 + t - 24 = t by omega] at this; exact this
  have q7 := e7 o ho.1 ho.2
  refine sg_X0_goOver_0 hd ⟨by omega, by omega, by omega, C_changePlaces (by omega) (by omega) (hq _ (kp_tr (kp_tr (kp_xu (by decide)) (kp_xu (by decide))) (kp_xu (by decide))) (fun t t0 t1 => ?_))⟩
  rw [gof_at hx ho hu hw, gof_at hx ho hu hw]
  simp (disch := omega) only [xu_cn]
  rw [q7, e7 u hu.1 hu.2, e8 (x o) xo.1 xo.2]
  have x7 : ∀ h' : xH, xth h' t = h' 7 t := fun h' => by unfold xth; rw [if_pos (by omega)]
  have x8 : ∀ h' : xH, xth h' (24 + t) = h' 8 t := fun h' => by unfold xth; rw [if_neg (by omega), show 24 + t - 24 = t by omega]
  rw [x7, x8]
  simp (disch := omega) only [xu_cn]
  rw [if_neg (show ¬ 24 + t = u by omega), if_neg (show ¬ 24 + t = o by omega)]
  refine ⟨?_, ?_⟩
  · by_cases z1 : t = u
    · rw [if_pos z1, z1, xu_eq]
    · rw [if_neg z1, xu_ne z1]
      by_cases z2 : t = o
      · rw [if_pos z2, z2, xu_eq]
      · rw [if_neg z2, xu_ne z2, xu_cn (by decide), if_neg (by omega)]; exact e7 t t0 t1
  · by_cases z3 : t = x o
    · rw [if_pos (by omega), z3, xu_eq]
    · rw [if_neg (by omega), xu_ne z3, e8 t t0 t1]
theorem C_goBack {d : Nat} {o u w : Int} {h : xH} {x : Int → Int} {Q : xH → Prop} (hd : 1 ≤ d) (hx : thR w x) (hw : w ≤ 12) (ho : 0 ≤ o ∧ o < 2 * w) (hu : 0 ≤ u ∧ u < 2 * w) (hne : o ≠ u) (ha : agW w (xth h) (gof x o u))
    (hq : ∀ h', kp [7, 8] h h' → agW w (xth h') x → Q h') : cV wdC d mX0_goBack [.inr (.inr 6), .inl o, .inl u] h Q := by
  have xo := hx.1 o ho.1 ho.2
  have xu' := hx.1 u hu.1 hu.2
  have e7 : ∀ t, 0 ≤ t → t < 2 * w → h 7 t = gof x o u t := fun t a b => by have := (ha t a b).1; unfold xth at this; rw [if_pos (by omega)] at this; exact this
  have e8 : ∀ t, 0 ≤ t → t < 2 * w → h 8 t = gof x o u (24 + t) := fun t a b => by have := (ha t a b).2; unfold xth at this; rw [if_neg (by omega), show 24 + t - 24 = t by omega] at this; exact this
  have q7o : h 7 o = x u := by rw [e7 o ho.1 ho.2, gof_at hx ho hu hw, if_neg hne, if_pos rfl]
  have q7u : h 7 u = x o := by rw [e7 u hu.1 hu.2, gof_at hx ho hu hw, if_pos rfl]
  have q8 : h 8 (x o) = x (24 + x o) + 1 := by rw [e8 (x o) xo.1 xo.2, gof_at hx ho hu hw, if_neg (by omega), if_neg (by omega), if_pos rfl]
  have f7o : xu (xu h 7 o (h 7 u)) 7 u (h 7 o) 7 o = x o := by rw [xu_ne hne, xu_eq, q7u]
  refine sg_X0_goBack_0 hd (C_changePlaces (by omega) (by omega) ⟨by omega, by omega, by omega, ?_⟩)
  rw [f7o]
  refine hq _ (kp_tr (kp_tr (kp_xu (by decide)) (kp_xu (by decide))) (kp_xu (by decide))) (fun t t0 t1 => ?_)
  simp (disch := omega) only [xu_cn]
  have x7 : ∀ h' : xH, xth h' t = h' 7 t := fun h' => by unfold xth; rw [if_pos (by omega)]
  have x8 : ∀ h' : xH, xth h' (24 + t) = h' 8 t := fun h' => by unfold xth; rw [if_neg (by omega), show 24 + t - 24 = t by omega]
  rw [x7, x8]
  refine ⟨?_, ?_⟩
  · simp (disch := omega) only [xu_cn]
    by_cases z1 : t = u
    · rw [z1, xu_eq, q7o]
    · rw [xu_ne z1]
      by_cases z2 : t = o
      · rw [z2, xu_eq, q7u]
      · rw [xu_ne z2, e7 t t0 t1, gof_at hx ho hu hw, if_neg z1, if_neg z2, if_neg (by omega)]
  · by_cases z3 : t = x o
    · rw [z3, xu_eq, q8]; omega
    · rw [xu_ne z3]
      simp (disch := omega) only [xu_cn]
      rw [e8 t t0 t1, gof_at hx ho hu hw, if_neg (by omega), if_neg (by omega), if_neg (by omega)]
/-- the two halves of a twist don't meet -/
theorem gof_comm {x : Int → Int} {sl w : Int} (hx : thR w x) (hs : 0 ≤ sl ∧ sl ≤ w - 2) (hw : w ≤ 12) : gof (gof x (2 * sl + 1) (2 * sl)) (2 * sl + 3) (2 * sl + 2) = gof (gof x (2 * sl + 3) (2 * sl + 2)) (2 * sl + 1) (2 * sl) := by
  have h1 := gof_thR hx (o := 2 * sl + 1) (u := 2 * sl) (by omega) (by omega) hw
  have h2 := gof_thR hx (o := 2 * sl + 3) (u := 2 * sl + 2) (by omega) (by omega) hw
  have a := hx.1 (2 * sl + 1) (by omega) (by omega)
  have b := hx.1 (2 * sl + 3) (by omega) (by omega)
  have ne : x (2 * sl + 1) ≠ x (2 * sl + 3) := fun e => by have := hx.2 _ _ (by omega) (by omega) (by omega) (by omega) e; omega
  funext j
  have g3 : gof x (2 * sl + 1) (2 * sl) (2 * sl + 3) = x (2 * sl + 3) := by rw [gof_at hx (by omega) (by omega) hw, if_neg (by omega), if_neg (by omega), if_neg (by omega)]
  have g2 : gof x (2 * sl + 1) (2 * sl) (2 * sl + 2) = x (2 * sl + 2) := by rw [gof_at hx (by omega) (by omega) hw, if_neg (by omega), if_neg (by omega), if_neg (by omega)]
  have k1 : gof x (2 * sl + 3) (2 * sl + 2) (2 * sl + 1) = x (2 * sl + 1) := by rw [gof_at hx (by omega) (by omega) hw, if_neg (by omega), if_neg (by omega), if_neg (by omega)]
  have k0 : gof x (2 * sl + 3) (2 * sl + 2) (2 * sl) = x (2 * sl) := by rw [gof_at hx (by omega) (by omega) hw, if_neg (by omega), if_neg (by omega), if_neg (by omega)]
  rw [gof_at h1 (by omega) (by omega) hw, gof_at h2 (by omega) (by omega) hw, g3, g2, k1, k0]
  rw [gof_at hx (o := 2 * sl + 1) (by omega) (by omega) hw, gof_at hx (o := 2 * sl + 1) (by omega) (by omega) hw j, gof_at hx (o := 2 * sl + 3) (by omega) (by omega) hw, gof_at hx (o := 2 * sl + 3) (by omega) (by omega) hw j]
  by_cases c0 : j = 2 * sl
  · subst c0; rw [if_neg (by omega), if_neg (by omega), if_neg (by omega), if_pos rfl, if_pos rfl]
  by_cases c1 : j = 2 * sl + 1
  · subst c1; rw [if_neg (by omega), if_neg (by omega), if_neg (by omega), if_neg (by omega), if_pos rfl, if_neg (by omega), if_pos rfl]
  by_cases c2 : j = 2 * sl + 2
  · subst c2; rw [if_pos rfl, if_neg (by omega), if_neg (by omega), if_neg (by omega), if_pos rfl]
  by_cases c3 : j = 2 * sl + 3
  · subst c3; rw [if_neg (by omega), if_pos rfl, if_neg (by omega), if_neg (by omega), if_neg (by omega), if_neg (by omega), if_pos rfl]
  rw [if_neg c2, if_neg c3, if_neg c0, if_neg c1, if_neg c0, if_neg c1, if_neg c2, if_neg c3]
  by_cases c4 : j = 24 + x (2 * sl + 3)
  · subst c4
    rw [if_pos rfl, if_neg (by omega), if_neg (by omega), if_neg (by omega), if_neg (by omega), if_pos rfl]
  · rw [if_neg c4, if_neg c4]
    by_cases c5 : j = 24 + x (2 * sl + 1)
    · subst c5
      rw [if_pos rfl, if_pos rfl, if_neg (by omega), if_neg (by omega), if_neg (by omega)]
    · rw [if_neg c5, if_neg c5]
