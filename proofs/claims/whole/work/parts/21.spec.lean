/-! what the rows mean: the reference's row s is the state -/
def up1 (x : Int → Int) (i v : Int) : Int → Int := fun j => if j = i then v else x j
theorem up1_eq {x : Int → Int} {i v : Int} : up1 x i v i = v := by simp [up1]
theorem up1_ne {x : Int → Int} {i v j : Int} (h : j ≠ i) : up1 x i v j = x j := by simp [up1, h]
theorem xu_row (h : xH) (c : Nat) (i v : Int) : xu h c i v c = up1 (h c) i v := by
  funext j
  simp [xu, up1]
/-- pins, slots, turns -/
def WFp (s : Int → Int) : Prop :=
  (2 ≤ s 0 ∧ s 0 ≤ 12) ∧ (0 ≤ s 1 ∧ s 1 ≤ 30) ∧ (0 ≤ s 2 ∧ s 2 ≤ 10) ∧
  (∀ p, 0 ≤ p → p < s 1 → (0 ≤ s (5 + p) ∧ s (5 + p) ≤ 99) ∧ (0 ≤ s (35 + p) ∧ s (35 + p) ≤ s 0 - 2) ∧ (0 ≤ s (65 + p) ∧ s (65 + p) ≤ 4)) ∧
  (∀ p q, 0 ≤ p → p < s 1 → 0 ≤ q → q < s 1 → p ≠ q → s (5 + p) = s (5 + q) → s (35 + p) + 2 ≤ s (35 + q) ∨ s (35 + q) + 2 ≤ s (35 + p)) ∧
  (∀ k, 0 ≤ k → k < 12 → s (125 + k) = 0 ∨ s (125 + k) = 1) ∧
  (∀ t, 0 ≤ t → t < s 2 → 0 ≤ s (137 + t) ∧ s (137 + t) < 100 * s 0) ∧
  (∀ t u, 0 ≤ t → t < s 2 → 0 ≤ u → u < s 2 → s (137 + t) = s (137 + u) → t = u)
/-- a thread goes over another one -/
def gof (x : Int → Int) (o u : Int) : Int → Int := up1 (up1 (up1 x (24 + x o) (x (24 + x o) + 1)) o (x u)) u (x o)
def stC (sl : Int) (x : Int → Int) : Int → Int := gof x (2 * sl + 1) (2 * sl + 2)
def stT (sl : Int) (x : Int → Int) : Int → Int := gof (gof x (2 * sl + 1) (2 * sl)) (2 * sl + 3) (2 * sl + 2)
/-- a stitch: threads at 0 .. 23, overs at 24 .. 47 -/
def stf (sl st : Int) (x : Int → Int) : Int → Int :=
  if st = 0 then stC sl x else if st = 1 then stT sl x else if st = 2 then stT sl (stC sl x) else if st = 3 then stC sl (stT sl (stC sl x)) else stT sl (stC sl (stT sl (stC sl x)))
/-- threads and overs behind i works -/
def tl (s : Int → Int) (i : Int) : Int → Int := fun t => if i = s 4 then s (157 + t) else s (207 + 50 * i + t)
def cnt (s : Int → Int) : Nat → Int
  | 0 => 0
  | n + 1 => cnt s n + s (95 + n)
/-- threads lie as they may: in a place each, overs not too many -/
def thOK (w i : Int) (x : Int → Int) : Prop := (∀ t, 0 ≤ t → t < 2 * w → 0 ≤ x t ∧ x t < 2 * w) ∧ (∀ t u, 0 ≤ t → t < 2 * w → 0 ≤ u → u < 2 * w → x t = x u → t = u) ∧ (∀ t, 0 ≤ t → t < 2 * w → 0 ≤ x (24 + t) ∧ x (24 + t) ≤ 6 * i)
/-- work -/
def WFb (s : Int → Int) : Prop :=
  (0 ≤ s 3 ∧ s 3 < s 0) ∧ (0 ≤ s 4 ∧ s 4 ≤ s 1) ∧
  (∀ p, 0 ≤ p → p < 30 → s (95 + p) = 0 ∨ s (95 + p) = 1) ∧ (∀ p, s 1 ≤ p → p < 30 → s (95 + p) = 0) ∧ cnt s (s 1).toNat = s 4 ∧
  (∀ i, 0 ≤ i → i < s 4 → (0 ≤ s (205 + 50 * i) ∧ s (205 + 50 * i) < s 0) ∧ (0 ≤ s (206 + 50 * i) ∧ s (206 + 50 * i) < s 1) ∧ s (95 + s (206 + 50 * i)) = 1) ∧
  (∀ i j, 0 ≤ i → i < s 4 → 0 ≤ j → j < s 4 → s (206 + 50 * i) = s (206 + 50 * j) → i = j) ∧
  (∀ i, 0 ≤ i → i ≤ s 4 → thOK (s 0) i (tl s i)) ∧
  (∀ i, 0 ≤ i → i < s 4 → ∀ t, 0 ≤ t → t < 48 → tl s (i + 1) t = stf (s (35 + s (206 + 50 * i))) (s (65 + s (206 + 50 * i))) (tl s i) t)
def WF (s : Int → Int) : Prop := WFp s ∧ WFb s
/-- the codes of turns -/
def tcs (s : Int → Int) : List Int := (List.range (s 2).toNat).map (fun t : Nat => s (137 + t))
/-- the class's pattern at its cells is that of s -/
def RPat (h : xH) (c r sl st tu : Nat) (s : Int → Int) : Prop :=
  h c 0 = s 0 ∧ h c 2 = s 1 ∧ h c 6 = s 2 ∧
  (∀ p, 0 ≤ p → p < s 1 → h r p = s (5 + p) ∧ h sl p = s (35 + p) ∧ h st p = s (65 + p)) ∧
  (∃ f : Nat, h c 1 = f ∧ f < 2 ^ (s 0).toNat ∧ ∀ k : Nat, (k : Int) < s 0 → s (125 + k) = bti f k) ∧
  (∀ t, 0 ≤ t → t < s 2 → 0 ≤ h tu t ∧ h tu t < 1600 ∧ h tu t % 16 < s 0) ∧
  (∀ t u, 0 ≤ t → t < u → u < s 2 → h tu t < h tu u) ∧
  ((List.range (s 2).toNat).map (fun t : Nat => 100 * (h tu t % 16) + h tu t / 16)).Perm (tcs s)
def RBen (h : xH) (c th ov wk hb : Nat) (s : Int → Int) : Prop :=
  (∀ t, 0 ≤ t → t < 2 * s 0 → h th t = s (157 + t) ∧ h ov t = s (181 + t)) ∧
  (∃ D : Nat, h c 2 = D ∧ D < 2 ^ 30 ∧ ∀ p : Nat, p < 30 → s (95 + p) = bti D p) ∧
  h c 3 = s 4 ∧ h c 6 = s 3 ∧ (∀ i, 0 ≤ i → i < s 4 → h wk i = s (206 + 50 * i) ∧ h hb i = s (205 + 50 * i))
def wordsL : List Int := [112, 105, 110, 0, 116, 117, 114, 110, 0, 101, 109, 112, 116, 121, 0, 102, 105, 108, 108, 0, 99, 114, 111, 115, 115, 0, 116, 119, 105, 115, 116, 0, 104, 97, 108, 102, 0, 99, 108, 111, 116, 104, 0, 119, 104, 111, 108, 101, 0]
/-- what the reference's object must be -/
def InvM (m : xH) : Prop :=
  WF (m 1) ∧ (m 0 3 = 0 ∨ m 0 3 = 1 ∧ WF (m 2)) ∧
  (0 ≤ m 0 22 ∧ m 0 22 ≤ 120) ∧ (∀ i, 0 ≤ i → i < m 0 22 → 1 ≤ m 14 i ∧ m 14 i ≤ 127) ∧
  (0 ≤ m 0 23 ∧ m 0 23 ≤ 12) ∧ (∀ i, 0 ≤ i → i < m 0 23 → 0 ≤ m 15 i ∧ m 15 i ≤ 127) ∧
  (∀ l, 0 ≤ l → l < 4 → -1 ≤ m 17 l ∧ m 17 l ≤ 30) ∧ (∀ l i, 0 ≤ l → l < 4 → 0 ≤ i → i < m 17 l → inL (m 19 (30 * l + i))) ∧
  (∀ i : Nat, i < 49 → m 20 i = wordsL.getD i 0)
/-- where the class looks a set of pins up, there is always a place of its list -/
def RG (h : xH) : Prop := ∀ S : Int, 0 ≤ S → S < 4096 → 0 ≤ h 54 S ∧ h 54 S < 729
theorem RG.congr {h h' : xH} (g : RG h) (e : h' 54 = h 54) : RG h' := by
  unfold RG
  rw [e]
  exact g
/-- the class's object beside it -/
def RelC (h m : xH) : Prop :=
  RPat h 1 2 3 4 5 (m 1) ∧ RBen h 6 7 8 9 10 (m 1) ∧
  (h 0 4 = m 0 3 ∧ (m 0 3 = 1 → RPat h 11 12 13 14 15 (m 2) ∧ RBen h 16 17 18 19 20 (m 2))) ∧
  (h 44 1 = m 0 22 ∧ ∀ i, 0 ≤ i → i < m 0 22 → h 45 i = m 14 i) ∧
  (h 0 12 = m 0 23 ∧ ∀ i, 0 ≤ i → i < m 0 23 → h 53 i = m 15 i) ∧
  (∀ l, 0 ≤ l → l < 4 → h 51 l = m 17 l ∧ ∀ i, 0 ≤ i → i < m 17 l → h 52 (l * 30 + i) = m 19 (30 * l + i)) ∧ RG h
def Rel (h m : xH) : Prop := InvM m ∧ RelC h m
/-- what was to be told of an API method: the same answer, and the relation again -/
def AId (d : Nat) (mC mM : xM) (as : List xV) : Prop := ∀ h m : xH, Rel h m → ∃ (r : Int) (PC PM : xH → Prop), inI r ∧ cI wdC d mC (.inr (.inr 0) :: as) h (fun n h' => n = r ∧ PC h') ∧ cI wdM d mM (.inr (.inr 0) :: as) m (fun n m' => n = r ∧ PM m') ∧ ∀ h' m', PC h' → PM m' → Rel h' m'
def AI (mC mM : xM) (as : List xV) : Prop := AId 30 mC mM as
def AL (mC mM : xM) (as : List xV) : Prop := ∀ h m : xH, Rel h m → ∃ (r : Int) (PC PM : xH → Prop), inL r ∧ cL wdC 30 mC (.inr (.inr 0) :: as) h (fun n h' => n = r ∧ PC h') ∧ cL wdM 30 mM (.inr (.inr 0) :: as) m (fun n m' => n = r ∧ PM m') ∧ ∀ h' m', PC h' → PM m' → Rel h' m'
theorem cB_of {wd : List xE} {d : Nat} {mi : xM} {as : List xV} {h : xH} {T F : xH → Prop} {b : Bool} (hs : ∀ Q : Int → xH → Prop, Q (b2i b) h → cI wd d mi as h Q) (ht : b = true → T h) (hf : b = false → F h) : cB wd d mi as h T F := by
  refine hs _ ?_
  cases b
  · exact Or.inr ⟨rfl, hf rfl⟩
  · exact Or.inl ⟨rfl, ht rfl⟩
theorem gI_mono {wd : List xE} {d : Nat} {mi : xM} {pc : Nat} {ls : List (Option xV)} {h : xH} {Q Q' : Int → xH → Prop} (hg : gI wd d mi pc ls h Q) (hq : ∀ n h', Q n h' → Q' n h') : gI wd d mi pc ls h Q' := by
  intro p l e R s m args below meth c D tc ad A H locs cells slots lsA hK hl hP hS hcs T hT X
  obtain ⟨t, a1, o, b1, b2, ⟨⟨r, h', c1, ⟨n, c2, c3⟩, c4⟩, c5⟩, b4⟩ := hg p l e R s m args below meth c D tc ad A H locs cells slots lsA hK hl hP hS hcs T hT X
  exact ⟨t, a1, o, b1, b2, ⟨⟨r, h', c1, ⟨n, c2, hq _ _ c3⟩, c4⟩, c5⟩, b4⟩
