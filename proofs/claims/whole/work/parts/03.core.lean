/-! The abstract machine of this claim: a world is a fixed list of cells; what changes in it are whole numbers. -/
/-- an int, a long, a reference (the number of a cell) -/
abbrev xV : Type := Int ⊕ (Int ⊕ Nat)
/-- what the cells hold: cell, place -/
abbrev xH : Type := Nat → Int → Int
/-- a cell: an array (type, length), or an object (class, fields: a number of a type, or a reference to a cell) -/
abbrev xE : Type := (FieldType × Nat) ⊕ (Nat × List (FieldType ⊕ Nat))
/-- a method: name, code, locals, answer -/
abbrev xM : Type := MethodName × ByteArray × Nat × Option FieldType
def xu (h : xH) (c : Nat) (i v : Int) : xH := fun c' i' => if c' = c ∧ i' = i then v else h c' i'
def inI (n : Int) : Prop := -2147483648 ≤ n ∧ n ≤ 2147483647
def inL (n : Int) : Prop := -9223372036854775808 ≤ n ∧ n ≤ 9223372036854775807
def xc (ad : Nat → Nat) (v : xV) : Value := match v with
  | .inl n => .int (Int32.ofInt n)
  | .inr (.inl n) => .long (Int64.ofInt n)
  | .inr (.inr c) => .ref (ad c)
def xcat (v : xV) : Nat := match v with
  | .inr (.inl _) => 2
  | _ => 1
theorem xcat_eq (ad : Nat → Nat) (v : xV) : (xc ad v).category = xcat v := by
  rcases v with n | n | c <;> rfl
theorem xcat_sum (ad : Nat → Nat) (l : List xV) : ((l.map (xc ad)).map fun v => v.category).sum = (l.map xcat).sum := by
  rw [List.map_map]
  congr 1
  exact List.map_congr_left (fun v _ => xcat_eq ad v)
def tblG : List Cond := lw_tbl.filter goodWord
theorem tblG_mem {w : Cond} (i : Nat) (h : lw_tbl[i]? = some w) (hg : goodWord w = true) : w ∈ tblG := List.mem_filter.mpr ⟨List.mem_of_getElem? h, hg⟩
theorem tblG_good : ∀ w ∈ tblG, goodWord w = true := fun w h => (List.mem_filter.mp h).2
def x_nest (w : Cond) : Bool := match w with
  | .fieldLinkNest _ _ _ _ _ _ => true
  | .methodLinkNest _ _ _ _ => true
  | _ => false
def tblN : List Cond := lw_tbl.filter x_nest
theorem tblN_mem {w : Cond} (i : Nat) (h : lw_tbl[i]? = some w) (hg : x_nest w = true) : w ∈ tblN := List.mem_filter.mpr ⟨List.mem_of_getElem? h, hg⟩
def xwm (mi : xM) : List Cond := .code mi.1 mi.2.1 mi.2.2.1 mi.2.2.2 :: tblG
theorem xgood {mi mj : xM} (h : Cond.code mj.1 mj.2.1 mj.2.2.1 mj.2.2.2 ∈ tblG) : GoodIn (xwm mi) (xwm mj) := by
  intro w hw
  rcases List.mem_cons.mp hw with rfl | hw
  · exact ⟨List.mem_cons_of_mem _ h, good_of_word (tblG_good _ h)⟩
  · exact ⟨List.mem_cons_of_mem _ hw, good_of_word (tblG_good _ hw)⟩
def xN (U : State) : Prop := ∀ w ∈ tblN, va_Nw w U
theorem xN.warm {s U : State} (hW : s.WarmedH U.vm) (h : xN s) : xN U := by
  intro w hw
  have h1 := h w hw
  have h2 := (List.mem_filter.mp hw).2
  unfold x_nest at h2
  split at h2
  · exact va_Nw.warmF hW h1
  · exact va_Nw.warmM hW h1
  · cases h2
theorem xN.same {u U : State} (hv : u.vm = U.vm) (h : xN u) : xN U := by
  intro w hw
  have h1 := h w hw
  have h2 := (List.mem_filter.mp hw).2
  unfold x_nest at h2
  split at h2
  · exact va_Nw.same rfl hv h1
  · exact va_Nw.same rfl hv h1
  · cases h2
/-- the world's cells as the kit has them -/
def xfv (ad : Nat → Nat) (h : xH) (c k : Nat) (f : FieldType ⊕ Nat) : Value := match f with
  | .inl .long => .long (Int64.ofInt (h c k))
  | .inl _ => .int (Int32.ofInt (h c k))
  | .inr c' => .ref (ad c')
def xar (ty : FieldType) (f : Int → Int) : (Nat → Int32) ⊕ (Nat → Int64) ⊕ (Nat → UInt32) ⊕ (Nat → UInt64) ⊕ (Nat → Option Nat) := match ty with
  | .long => .inr (.inl (fun i => Int64.ofInt (f i)))
  | _ => .inl (fun i => Int32.ofInt (f i))
def xti (ty : FieldType) : Nat := match ty with
  | .int => 0
  | .long => 1
  | .boolean => 2
  | _ => 3
def xT (tc : Nat → ClassId) : List (ClassId × FieldType) := [(tc 0, .int), (tc 1, .long), (tc 2, .int), (tc 3, .char)]
def xce (tc : Nat → ClassId) (ad : Nat → Nat) (h : xH) (c : Nat) (e : xE) : va_E := match e with
  | .inl (ty, n) => .inl (tc (xti ty), n, xar ty (h c))
  | .inr (ci, fs) => .inr (ci, fs.mapIdx (xfv ad h c))
def xws (wd : List xE) (tc : Nat → ClassId) (ad : Nat → Nat) (h : xH) : va_W := wd.mapIdx (fun c e => (ad c, xce tc ad h c e))
theorem xws_get {wd : List xE} {tc : Nat → ClassId} {ad : Nat → Nat} {h : xH} {c : Nat} {e : xE} (hc : wd[c]? = some e) : (xws wd tc ad h)[c]? = some (ad c, xce tc ad h c e) := by
  simp [xws, List.getElem?_mapIdx, hc]
theorem xws_len (wd : List xE) (tc : Nat → ClassId) (ad : Nat → Nat) (h : xH) : (xws wd tc ad h).length = wd.length := by simp [xws]
theorem xws_inv {wd : List xE} {tc : Nat → ClassId} {ad : Nat → Nat} {h : xH} {c : Nat} {q : Nat × va_E} (hc : (xws wd tc ad h)[c]? = some q) : c < wd.length ∧ q.1 = ad c := by
  have h1 : c < wd.length := by
    have := (List.getElem?_eq_some_iff.mp hc).1
    rwa [xws_len] at this
  refine ⟨h1, ?_⟩
  have h2 := xws_get (tc := tc) (ad := ad) (h := h) (List.getElem?_eq_getElem h1)
  rw [hc] at h2
  rw [Option.some.inj h2]
theorem xu_oth {h : xH} {c : Nat} {i v : Int} {c' : Nat} (hn : c' ≠ c) : xu h c i v c' = h c' := by
  funext j
  simp [xu, hn]
theorem xce_oth {tc : Nat → ClassId} {ad : Nat → Nat} {h h' : xH} {c : Nat} {e : xE} (hh : h' c = h c) : xce tc ad h' c e = xce tc ad h c e := by
  rcases e with ⟨ty, n⟩ | ⟨ci, fs⟩
  · simp [xce, hh]
  · simp only [xce]
    congr 3
    funext k f
    unfold xfv
    split <;> simp [hh]
theorem xws_set {wd : List xE} {tc : Nat → ClassId} {ad : Nat → Nat} {h h' : xH} {c : Nat} {e : xE} (hc : wd[c]? = some e) (ho : ∀ c', c' ≠ c → h' c' = h c') :
    (xws wd tc ad h).set c (ad c, xce tc ad h' c e) = xws wd tc ad h' := by
  apply List.ext_getElem?
  intro k
  rw [List.getElem?_set]
  by_cases hk : c = k
  · subst hk
    have h1 : c < wd.length := (List.getElem?_eq_some_iff.mp hc).1
    rw [if_pos rfl, if_pos (by rw [xws_len]; exact h1), xws_get hc]
  · rw [if_neg hk]
    cases he : wd[k]? with
    | none => simp [xws, List.getElem?_mapIdx, he]
    | some e' =>
      rw [xws_get he, xws_get he, xce_oth (ho k (Ne.symm hk))]
theorem xmi_set {ad : Nat → Nat} {h h' : xH} {c k : Nat} {fs : List (FieldType ⊕ Nat)} {f : FieldType ⊕ Nat} (hf : fs[k]? = some f) (ho : ∀ j : Nat, j ≠ k → h' c j = h c j) :
    (fs.mapIdx (xfv ad h c)).set k (xfv ad h' c k f) = fs.mapIdx (xfv ad h' c) := by
  apply List.ext_getElem?
  intro j
  rw [List.getElem?_set]
  by_cases hk : k = j
  · subst hk
    have h1 : k < fs.length := (List.getElem?_eq_some_iff.mp hf).1
    rw [if_pos rfl, if_pos (by rw [List.length_mapIdx]; exact h1), List.getElem?_mapIdx, hf]
    rfl
  · rw [if_neg hk]
    simp only [List.getElem?_mapIdx]
    cases fs[j]? with
    | none => rfl
    | some g =>
      simp only [Option.map_some, Option.some.injEq]
      unfold xfv
      split <;> simp [ho j (Ne.symm hk)]
/-- which cells a method may change -/
def xA (wd : List xE) (ad : Nat → Nat) (sz : Nat) : Nat → Prop := fun q => (∃ i, i < wd.length ∧ q = ad i) ∨ sz ≤ q
theorem xD {wd : List xE} {tc : Nat → ClassId} {ad : Nat → Nat} {A : Nat → Prop} (hi : ∀ i j, i < wd.length → j < wd.length → ad i = ad j → i = j) (hA : ∀ i, i < wd.length → A (ad i)) (h : xH) : va_D A (xws wd tc ad h) := by
  refine ⟨fun i j p q hp hq hpq => ?_, fun k q hq => ?_⟩
  · obtain ⟨h1, e1⟩ := xws_inv hp
    obtain ⟨h2, e2⟩ := xws_inv hq
    exact hi i j h1 h2 (by rw [← e1, ← e2, hpq])
  · obtain ⟨h1, e1⟩ := xws_inv hq
    rw [e1]; exact hA k h1
/-- the text constants: their cells, and what the JDK's members on them read -/
def xstx : List String := ["pin", "turn", "empty", "fill", "cross", "twist", "half", "cloth", "whole"]
def xlen : List Nat := [3, 4, 5, 4, 5, 5, 4, 5, 5]
def xbyt : List (List Int32) := [[112, 105, 110], [116, 117, 114, 110], [101, 109, 112, 116, 121], [102, 105, 108, 108], [99, 114, 111, 115, 115], [116, 119, 105, 115, 116], [104, 97, 108, 102], [99, 108, 111, 116, 104], [119, 104, 111, 108, 101]]
def xskk : List Nat := [60, 66, 68, 70, 76, 78, 80, 82, 84]
def xS (ad : Nat → Nat) (A : Nat → Prop) (U : State) (H : Heap) : Prop :=
  vk_S 9 xlen xbyt (fun i => ad (1000 + i)) (fun i => ad (2000 + i)) A U H ∧ va_Z "java/lang/String" "COMPACT_STRINGS" "Z" (.int 1) A U H ∧ va_Zq "jdk/internal/util/Preconditions" "SIOOBE_FORMATTER" "Ljava/util/function/BiFunction;" A U H ∧
  ∀ i : Nat, i < 9 → vk_R "LacePins$Tape" (xskk.getD i 0) (xstx.getD i "") (ad (1000 + i)) U
theorem xS.warm {ad : Nat → Nat} {A : Nat → Prop} {s U : State} {H : Heap} (hW : s.WarmedH U.vm) (h : xS ad A s H) : xS ad A U H :=
  ⟨h.1.moved hW.alike, h.2.1.moved hW.alike, h.2.2.1.moved hW.alike, fun i hi => (h.2.2.2 i hi).warm hW⟩
theorem xS.same {ad : Nat → Nat} {A : Nat → Prop} {u U : State} {H : Heap} (hv : U.vm = u.vm) (h : xS ad A u H) : xS ad A U H :=
  ⟨h.1.moved (by rw [hv]; exact Vm.Alike.refl _), h.2.1.moved (by rw [hv]; exact Vm.Alike.refl _), h.2.2.1.moved (by rw [hv]; exact Vm.Alike.refl _), fun i hi => (h.2.2.2 i hi).same hv⟩
theorem xS.kept {ad : Nat → Nat} {A : Nat → Prop} {U : State} {H H1 : Heap} (h : xS ad A U H) (hq : ∀ a : Nat, a < H.size → ¬ A a → H1[a]? = H[a]?) : xS ad A U H1 :=
  ⟨h.1.kept hq, h.2.1.kept hq, h.2.2.1.kept hq, h.2.2.2⟩
theorem xS.narrow {ad : Nat → Nat} {A B : Nat → Prop} {U : State} {H : Heap} (h : xS ad A U H) (hAB : ∀ q, B q → A q) : xS ad B U H :=
  ⟨h.1.narrow hAB, h.2.1.narrow hAB, h.2.2.1.narrow hAB, h.2.2.2⟩
/-- locals: what is known of them -/
def xLs (ad : Nat → Nat) (lsA : Array Slot) (nL : Nat) (ls : List (Option xV)) : Prop := lsA.size = nL ∧ lv_wf lsA ∧ ∀ (k : Nat) (v : xV), ls[k]? = some (some v) → lsA[k]? = some (.val (xc ad v))
/-- what stays through a method's body -/
def xK (wd : List xE) (d : Nat) (mi : xM) (p : Program) (R : Room) (s : State) (m : MethodId) (args : Array Value) (meth : Method) (c : Code) (D : va_G) (tc : Nat → ClassId) (ad : Nat → Nat) (A : Nat → Prop) : Prop :=
  p.tables.exec = Jvm.exec ∧ c.code = mi.2.1 ∧ c.maxLocals = mi.2.2.1 ∧ meth.sig.returnType = mi.2.2.2 ∧ meth.locks = false ∧ s.vm.findClass mi.1.cls = some m.cls ∧ (∀ w ∈ xwm mi, w.before args s = true) ∧
  va_K D vwCl (xT tc) s ∧ xN s ∧ (∀ i j, i < wd.length → j < wd.length → ad i = ad j → i = j) ∧ (∀ i, i < wd.length → A (ad i)) ∧ (∀ q, s.heap.size ≤ q → A q) ∧ (d ≤ R.frames ∧ 60 * d ≤ R.locals) ∧ xS ad A s s.heap
/-- a method's end -/
def xQ (wd : List xE) (D : va_G) (tc : Nat → ClassId) (ad : Nat → Nat) (A : Nat → Prop) (Q : Option xV → xH → Prop) : Array Value → State → Outcome → State → Prop := fun _ st oc t =>
  (∃ (r : Option xV) (h' : xH), oc = .returned (r.map (xc ad)) ∧ Q r h' ∧ va_P D vwCl (xws wd tc ad h') t.heap) ∧ va_F A st t
/-- THE JUDGEMENT: from here the method ends, and Q holds of its answer and of what the cells hold then -/
def xG (wd : List xE) (d : Nat) (mi : xM) (pc : Nat) (ls : List (Option xV)) (st : List xV) (h : xH) (Q : Option xV → xH → Prop) : Prop :=
  ∀ (p : Program) (l : Launch) (e : Env) (R : Room) (s : State) (m : MethodId) (args : Array Value) (below : List Frame) (meth : Method) (c : Code) (D : va_G) (tc : Nat → ClassId) (ad : Nat → Nat) (A : Nat → Prop) (H : Heap) (locs : List Loc) (cells slots : Nat) (lsA : Array Slot),
    xK wd d mi p R s m args meth c D tc ad A → xLs ad lsA mi.2.2.1 ls → va_P D vwCl (xws wd tc ad h) H → va_S A s.heap H locs → (cells ≤ R.cells ∧ slots ≤ R.slots) →
    W p l e R s m args below meth c H locs cells slots (MQ below (xQ wd D tc ad A Q) args s cells slots A) (F0 m pc lsA (st.map (xc ad)))
/-- the locals at a method's entry -/
def xent0 : List xV → List (Option xV)
  | [] => []
  | .inr (.inl n) :: r => some (.inr (.inl n)) :: none :: xent0 r
  | .inl n :: r => some (.inl n) :: xent0 r
  | .inr (.inr c) :: r => some (.inr (.inr c)) :: xent0 r
def xent (n : Nat) (as : List xV) : List (Option xV) := xent0 as ++ List.replicate (n - (xent0 as).length) none
theorem xent0_args (ad : Nat → Nat) : ∀ (as : List xV) (i k : Nat) (v : xV), (xent0 as)[k]? = some (some v) → (i + k, xc ad v) ∈ lv_args i (as.map (xc ad)) := by
  intro as
  induction as with
  | nil => intro i k v h; simp [xent0] at h
  | cons a as ih =>
    intro i k v h
    rcases a with n | n | c
    · simp only [List.map_cons, lv_args]
      cases k with
      | zero => simp [xent0] at h; subst h; simp
      | succ k =>
        simp [xent0] at h
        have := ih (i + 1) k v h
        refine List.mem_cons_of_mem _ ?_
        rw [if_neg (by simp [xc, Value.category])]
        have e : i + (k + 1) = i + 1 + k := by omega
        rw [e]; exact this
    · simp only [List.map_cons, lv_args]
      cases k with
      | zero => simp [xent0] at h; subst h; simp
      | succ k =>
        cases k with
        | zero => simp [xent0] at h
        | succ k =>
          simp [xent0] at h
          have := ih (i + 2) k v h
          refine List.mem_cons_of_mem _ ?_
          rw [if_pos (by simp [xc, Value.category])]
          have e : i + (k + 1 + 1) = i + 2 + k := by omega
          rw [e]; exact this
    · simp only [List.map_cons, lv_args]
      cases k with
      | zero => simp [xent0] at h; subst h; simp
      | succ k =>
        simp [xent0] at h
        have := ih (i + 1) k v h
        refine List.mem_cons_of_mem _ ?_
        rw [if_neg (by simp [xc, Value.category])]
        have e : i + (k + 1) = i + 1 + k := by omega
        rw [e]; exact this
theorem xent_args (ad : Nat → Nat) (n : Nat) (as : List xV) (k : Nat) (v : xV) (h : (xent n as)[k]? = some (some v)) : (k, xc ad v) ∈ lv_args 0 (as.map (xc ad)) := by
  have h1 : (xent0 as)[k]? = some (some v) := by
    unfold xent at h
    rw [List.getElem?_append] at h
    split at h
    · exact h
    · rw [List.getElem?_replicate] at h
      split at h <;> simp at h
  have := xent0_args ad as 0 k v h1
  rwa [Nat.zero_add] at this
theorem lg_sl_len (ad : Nat → Nat) : ∀ as : List xV, (lg_sl (as.map (xc ad))).length = (xent0 as).length := by
  intro as
  induction as with
  | nil => rfl
  | cons a as ih =>
    rcases a with n | n | c
    · simp [xent0, ← ih]; rfl
    · simp [xent0, ← ih]; rfl
    · simp [xent0, ← ih]; rfl
