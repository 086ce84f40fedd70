/-! one law an instruction -/
def xclr (o : Option xV) : Option xV := match o with
  | some (.inr (.inl _)) => none
  | o => o
/-- an int or a reference into a local; a long -/
def xst1 : List (Option xV) → Nat → xV → List (Option xV)
  | [], _, _ => []
  | _ :: r, 0, v => some v :: r
  | o :: r, 1, v => xclr o :: xst1 r 0 v
  | o :: r, n + 2, v => o :: xst1 r (n + 1) v
def xst2 : List (Option xV) → Nat → xV → List (Option xV)
  | [], _, _ => []
  | [_], 0, _ => []
  | _ :: _ :: r, 0, v => some v :: none :: r
  | o :: r, 1, v => xclr o :: xst2 r 0 v
  | o :: r, n + 2, v => o :: xst2 r (n + 1) v
theorem xclr_some {o : Option xV} {w : xV} (h : xclr o = some w) : o = some w ∧ xcat w ≠ 2 := by
  rcases o with _ | n | n | c <;> simp [xclr] at h <;> subst h <;> simp [xcat]
theorem xst1_get : ∀ (ls : List (Option xV)) (i : Nat) (v : xV) (k : Nat) (w : xV), (xst1 ls i v)[k]? = some (some w) → (k = i ∧ w = v) ∨ (k ≠ i ∧ ls[k]? = some (some w) ∧ (k + 1 = i → xcat w ≠ 2)) := by
  intro ls
  induction ls with
  | nil => intro i v k w h; simp [xst1] at h
  | cons o r ih =>
    intro i v k w h
    match i with
    | 0 =>
      cases k with
      | zero => simp [xst1] at h; exact Or.inl ⟨rfl, h.symm⟩
      | succ k => simp [xst1] at h; exact Or.inr ⟨by omega, by simpa using h, by omega⟩
    | 1 =>
      cases k with
      | zero =>
        simp [xst1] at h
        have := xclr_some h
        exact Or.inr ⟨by omega, by simp [this.1], fun _ => this.2⟩
      | succ k =>
        simp [xst1] at h
        rcases ih 0 v k w h with ⟨h1, h2⟩ | ⟨h1, h2, h3⟩
        · exact Or.inl ⟨by omega, h2⟩
        · exact Or.inr ⟨by omega, by simpa using h2, by omega⟩
    | n + 2 =>
      cases k with
      | zero => simp [xst1] at h; exact Or.inr ⟨by omega, by simp [h], by omega⟩
      | succ k =>
        simp [xst1] at h
        rcases ih (n + 1) v k w h with ⟨h1, h2⟩ | ⟨h1, h2, h3⟩
        · exact Or.inl ⟨by omega, h2⟩
        · exact Or.inr ⟨by omega, by simpa using h2, fun h => h3 (by omega)⟩
theorem xst2_get : ∀ (ls : List (Option xV)) (i : Nat) (v : xV) (k : Nat) (w : xV), (xst2 ls i v)[k]? = some (some w) → (k = i ∧ w = v) ∨ (k ≠ i ∧ k ≠ i + 1 ∧ ls[k]? = some (some w) ∧ (k + 1 = i → xcat w ≠ 2)) := by
  intro ls
  induction ls with
  | nil => intro i v k w h; simp [xst2] at h
  | cons o r ih =>
    intro i v k w h
    match i with
    | 0 =>
      cases r with
      | nil => simp [xst2] at h
      | cons o2 r =>
        cases k with
        | zero => simp [xst2] at h; exact Or.inl ⟨rfl, h.symm⟩
        | succ k =>
          cases k with
          | zero => simp [xst2] at h
          | succ k => simp [xst2] at h; exact Or.inr ⟨by omega, by omega, by simpa using h, by omega⟩
    | 1 =>
      cases k with
      | zero =>
        simp [xst2] at h
        have := xclr_some h
        exact Or.inr ⟨by omega, by omega, by simp [this.1], fun _ => this.2⟩
      | succ k =>
        simp [xst2] at h
        rcases ih 0 v k w h with ⟨h1, h2⟩ | ⟨h1, h2, h3, h4⟩
        · exact Or.inl ⟨by omega, h2⟩
        · exact Or.inr ⟨by omega, by omega, by simpa using h3, by omega⟩
    | n + 2 =>
      cases k with
      | zero => simp [xst2] at h; exact Or.inr ⟨by omega, by omega, by simp [h], by omega⟩
      | succ k =>
        simp [xst2] at h
        rcases ih (n + 1) v k w h with ⟨h1, h2⟩ | ⟨h1, h2, h3, h4⟩
        · exact Or.inl ⟨by omega, h2⟩
        · exact Or.inr ⟨by omega, by omega, by simpa using h3, fun h => h4 (by omega)⟩
/-- what is known of the locals, as the kit lists it -/
def xal (ad : Nat → Nat) (ls : List (Option xV)) : List (Nat × Value) := (List.range ls.length).filterMap (fun k => (ls.getD k none).map (fun v => (k, xc ad v)))
theorem xal_mem {ad : Nat → Nat} {ls : List (Option xV)} {k : Nat} {v : xV} (h : ls[k]? = some (some v)) : (k, xc ad v) ∈ xal ad ls := by
  have h1 : k < ls.length := (List.getElem?_eq_some_iff.mp h).1
  refine List.mem_filterMap.mpr ⟨k, List.mem_range.mpr h1, ?_⟩
  simp [List.getD_eq_getElem?_getD, h]
theorem xal_has {ad : Nat → Nat} {lsA : Array Slot} {nL : Nat} {ls : List (Option xV)} (h : xLs ad lsA nL ls) : lv_has lsA nL (xal ad ls) := by
  refine ⟨h.1, h.2.1, fun q hq => ?_⟩
  obtain ⟨k, hk, he⟩ := List.mem_filterMap.mp hq
  cases hv : ls[k]? with
  | none => simp [List.getD_eq_getElem?_getD, hv] at he
  | some o =>
    cases o with
    | none => simp [List.getD_eq_getElem?_getD, hv] at he
    | some v =>
      simp [List.getD_eq_getElem?_getD, hv] at he
      rw [← he]
      exact h.2.2 k v hv
theorem xst1_has {ad : Nat → Nat} {ls' : Array Slot} {nL i : Nat} {ls : List (Option xV)} {v : xV} {lv : List (Nat × Value)} (hs : ∀ k w, ls[k]? = some (some w) → (k, xc ad w) ∈ lv) (h : lv_has ls' nL ((i, xc ad v) :: lv.filter (fun q => !(q.1 == i) && !(q.1 + 1 == i && q.2.category == 2)))) : xLs ad ls' nL (xst1 ls i v) := by
  refine ⟨h.1, h.2.1, fun k w hk => ?_⟩
  rcases xst1_get ls i v k w hk with ⟨rfl, rfl⟩ | ⟨h1, h2, h3⟩
  · exact h.2.2 (k, xc ad w) List.mem_cons_self
  · refine h.2.2 (k, xc ad w) (List.mem_cons_of_mem _ (List.mem_filter.mpr ⟨hs k w h2, ?_⟩))
    simp only [xcat_eq]
    by_cases h4 : k + 1 = i
    · simp [h1, h3 h4]
    · simp [h1, h4]
theorem xst2_has {ad : Nat → Nat} {ls' : Array Slot} {nL i : Nat} {ls : List (Option xV)} {v : xV} {lv : List (Nat × Value)} (hs : ∀ k w, ls[k]? = some (some w) → (k, xc ad w) ∈ lv) (h : lv_has ls' nL ((i, xc ad v) :: lv.filter (fun q => !(q.1 == i) && (!(q.1 == i + 1) && !(q.1 + 1 == i && q.2.category == 2))))) : xLs ad ls' nL (xst2 ls i v) := by
  refine ⟨h.1, h.2.1, fun k w hk => ?_⟩
  rcases xst2_get ls i v k w hk with ⟨rfl, rfl⟩ | ⟨h1, h0, h2, h3⟩
  · exact h.2.2 (k, xc ad w) List.mem_cons_self
  · refine h.2.2 (k, xc ad w) (List.mem_cons_of_mem _ (List.mem_filter.mpr ⟨hs k w h2, ?_⟩))
    simp only [xcat_eq]
    by_cases h4 : k + 1 = i
    · simp [h1, h0, h3 h4]
    · simp [h1, h0, h4]
section XR
variable {wd : List xE} {d : Nat} {mi : xM} {pc : Nat} {ls ls' : List (Option xV)} {st : List xV} {h : xH} {Q : Option xV → xH → Prop}
theorem x_iconst {n : Int} (hdg : decode mi.2.1 pc = .ok (.iconst n, 1)) (k : xG wd d mi (pc + 1) ls (.inl n :: st) h Q) : xG wd d mi pc ls st h Q := by
  intro p l e R s m args below meth cd D tc ad A H locs cells slots lsA hK hl hP hS hcs
  exact lv_iconst (v := Int32.ofInt n) hK.1 hK.2.1 hdg rfl (k p l e R s m args below meth cd D tc ad A H locs cells slots lsA hK hl hP hS hcs)
theorem x_bipush {n : Int} (hdg : decode mi.2.1 pc = .ok (.bipush n, 2)) (hv : (Int8.ofInt n).toInt32 = Int32.ofInt n) (k : xG wd d mi (pc + 2) ls (.inl n :: st) h Q) : xG wd d mi pc ls st h Q := by
  intro p l e R s m args below meth cd D tc ad A H locs cells slots lsA hK hl hP hS hcs
  exact lv_bipush (v := Int32.ofInt n) hK.1 hK.2.1 hdg hv (k p l e R s m args below meth cd D tc ad A H locs cells slots lsA hK hl hP hS hcs)
theorem x_sipush {n : Int} (hdg : decode mi.2.1 pc = .ok (.sipush n, 3)) (hv : (Int16.ofInt n).toInt32 = Int32.ofInt n) (k : xG wd d mi (pc + 3) ls (.inl n :: st) h Q) : xG wd d mi pc ls st h Q := by
  intro p l e R s m args below meth cd D tc ad A H locs cells slots lsA hK hl hP hS hcs
  exact lv_sipush (v := Int32.ofInt n) hK.1 hK.2.1 hdg hv (k p l e R s m args below meth cd D tc ad A H locs cells slots lsA hK hl hP hS hcs)
theorem x_lconst {n : Fin 2} {v : Int} (hdg : decode mi.2.1 pc = .ok (.lconst n, 1)) (hv : Int64.ofNat (n : Nat) = Int64.ofInt v) (k : xG wd d mi (pc + 1) ls (.inr (.inl v) :: st) h Q) : xG wd d mi pc ls st h Q := by
  intro p l e R s m args below meth cd D tc ad A H locs cells slots lsA hK hl hP hS hcs
  exact lv_lconst (v := Int64.ofInt v) hK.1 hK.2.1 hdg hv (k p l e R s m args below meth cd D tc ad A H locs cells slots lsA hK hl hP hS hcs)
theorem x_ldc {idx : Nat} {n : Int} {v : Int32} (hw : Cond.constant mi.1.cls idx v ∈ tblG) (hv : v = Int32.ofInt n) (hdg : decode mi.2.1 pc = .ok (.ldc idx, 2)) (k : xG wd d mi (pc + 2) ls (.inl n :: st) h Q) : xG wd d mi pc ls st h Q := by
  intro p l e R s m args below meth cd D tc ad A H locs cells slots lsA hK hl hP hS hcs
  subst hv
  exact lv_ldc hK.1 hK.2.1 hK.2.2.2.2.2.1 (hK.2.2.2.2.2.2.1 _ (List.mem_cons_of_mem _ hw)) hdg (k p l e R s m args below meth cd D tc ad A H locs cells slots lsA hK hl hP hS hcs)
theorem x_ldcw {idx : Nat} {n : Int} {v : Int32} (hw : Cond.constant mi.1.cls idx v ∈ tblG) (hv : v = Int32.ofInt n) (hdg : decode mi.2.1 pc = .ok (.ldc_w idx, 3)) (k : xG wd d mi (pc + 3) ls (.inl n :: st) h Q) : xG wd d mi pc ls st h Q := by
  intro p l e R s m args below meth cd D tc ad A H locs cells slots lsA hK hl hP hS hcs
  subst hv
  exact lv_ldcw hK.1 hK.2.1 hK.2.2.2.2.2.1 (hK.2.2.2.2.2.2.1 _ (List.mem_cons_of_mem _ hw)) hdg (k p l e R s m args below meth cd D tc ad A H locs cells slots lsA hK hl hP hS hcs)
theorem x_ldc2 {idx : Nat} {n : Int} {v : Int64} (hw : Cond.constantLong mi.1.cls idx v ∈ tblG) (hv : v = Int64.ofInt n) (hdg : decode mi.2.1 pc = .ok (.ldc2_w idx, 3)) (k : xG wd d mi (pc + 3) ls (.inr (.inl n) :: st) h Q) : xG wd d mi pc ls st h Q := by
  intro p l e R s m args below meth cd D tc ad A H locs cells slots lsA hK hl hP hS hcs
  subst hv
  exact lv_ldc2 hK.1 hK.2.1 hK.2.2.2.2.2.1 (hK.2.2.2.2.2.2.1 _ (List.mem_cons_of_mem _ hw)) hdg (k p l e R s m args below meth cd D tc ad A H locs cells slots lsA hK hl hP hS hcs)
theorem x_ldcS {idx i : Nat} (hi : i < 9) (hidx : xskk.getD i 0 = idx) (hc : mi.1.cls = "LacePins$Tape") (hdg : decode mi.2.1 pc = .ok (.ldc idx, 2)) (k : xG wd d mi (pc + 2) ls (.inr (.inr (1000 + i)) :: st) h Q) : xG wd d mi pc ls st h Q := by
  intro p l e R s m args below meth cd D tc ad A H locs cells slots lsA hK hl hP hS hcs
  subst hidx
  exact va_ldcS (own := "LacePins$Tape") hK.1 hK.2.1 (hc ▸ hK.2.2.2.2.2.1) (hK.2.2.2.2.2.2.2.2.2.2.2.2.2.2.2.2 i hi) hdg (k p l e R s m args below meth cd D tc ad A H locs cells slots lsA hK hl hP hS hcs)
theorem x_iload_n {q : Fin 4} {i : Nat} {a : Int} (hdg : decode mi.2.1 pc = .ok (.iload_n q, 1)) (hi : (q : Nat) = i) (hv : ls[i]? = some (some (.inl a))) (k : xG wd d mi (pc + 1) ls (.inl a :: st) h Q) : xG wd d mi pc ls st h Q := by
  intro p l e R s m args below meth cd D tc ad A H locs cells slots lsA hK hl hP hS hcs
  exact lv_iload_n hK.1 hK.2.1 hdg hi (hl.2.2 i _ hv) (k p l e R s m args below meth cd D tc ad A H locs cells slots lsA hK hl hP hS hcs)
theorem x_iload {i : Nat} {a : Int} (hdg : decode mi.2.1 pc = .ok (.iload i, 2)) (hv : ls[i]? = some (some (.inl a))) (k : xG wd d mi (pc + 2) ls (.inl a :: st) h Q) : xG wd d mi pc ls st h Q := by
  intro p l e R s m args below meth cd D tc ad A H locs cells slots lsA hK hl hP hS hcs
  exact lv_iload hK.1 hK.2.1 hdg (hl.2.2 i _ hv) (k p l e R s m args below meth cd D tc ad A H locs cells slots lsA hK hl hP hS hcs)
theorem x_istore_n {q : Fin 4} {i : Nat} {a : Int} (hdg : decode mi.2.1 pc = .ok (.istore_n q, 1)) (hi : (q : Nat) = i) (hn : i < mi.2.2.1) (hls : xst1 ls i (.inl a) = ls') (k : xG wd d mi (pc + 1) ls' st h Q) : xG wd d mi pc ls (.inl a :: st) h Q := by
  intro p l e R s m args below meth cd D tc ad A H locs cells slots lsA hK hl hP hS hcs
  subst hls
  exact lv_istore_n hK.1 hK.2.1 hdg hi (xal_has hl) hn rfl (fun lsB hB => k p l e R s m args below meth cd D tc ad A H locs cells slots lsB hK (xst1_has (v := .inl a) (fun _ _ => xal_mem) hB) hP hS hcs)
theorem x_istore {i : Nat} {a : Int} (hdg : decode mi.2.1 pc = .ok (.istore i, 2)) (hn : i < mi.2.2.1) (hls : xst1 ls i (.inl a) = ls') (k : xG wd d mi (pc + 2) ls' st h Q) : xG wd d mi pc ls (.inl a :: st) h Q := by
  intro p l e R s m args below meth cd D tc ad A H locs cells slots lsA hK hl hP hS hcs
  subst hls
  exact lv_istore hK.1 hK.2.1 hdg (xal_has hl) hn rfl (fun lsB hB => k p l e R s m args below meth cd D tc ad A H locs cells slots lsB hK (xst1_has (v := .inl a) (fun _ _ => xal_mem) hB) hP hS hcs)
theorem x_lload_n {q : Fin 4} {i : Nat} {a : Int} (hdg : decode mi.2.1 pc = .ok (.lload_n q, 1)) (hi : (q : Nat) = i) (hv : ls[i]? = some (some (.inr (.inl a)))) (k : xG wd d mi (pc + 1) ls (.inr (.inl a) :: st) h Q) : xG wd d mi pc ls st h Q := by
  intro p l e R s m args below meth cd D tc ad A H locs cells slots lsA hK hl hP hS hcs
  exact lv_lload_n hK.1 hK.2.1 hdg hi (hl.2.2 i _ hv) (k p l e R s m args below meth cd D tc ad A H locs cells slots lsA hK hl hP hS hcs)
theorem x_lload {i : Nat} {a : Int} (hdg : decode mi.2.1 pc = .ok (.lload i, 2)) (hv : ls[i]? = some (some (.inr (.inl a)))) (k : xG wd d mi (pc + 2) ls (.inr (.inl a) :: st) h Q) : xG wd d mi pc ls st h Q := by
  intro p l e R s m args below meth cd D tc ad A H locs cells slots lsA hK hl hP hS hcs
  exact lv_lload hK.1 hK.2.1 hdg (hl.2.2 i _ hv) (k p l e R s m args below meth cd D tc ad A H locs cells slots lsA hK hl hP hS hcs)
theorem x_lstore_n {q : Fin 4} {i : Nat} {a : Int} (hdg : decode mi.2.1 pc = .ok (.lstore_n q, 1)) (hi : (q : Nat) = i) (hn : i + 1 < mi.2.2.1) (hls : xst2 ls i (.inr (.inl a)) = ls') (k : xG wd d mi (pc + 1) ls' st h Q) : xG wd d mi pc ls (.inr (.inl a) :: st) h Q := by
  intro p l e R s m args below meth cd D tc ad A H locs cells slots lsA hK hl hP hS hcs
  subst hls
  exact lv_lstore_n hK.1 hK.2.1 hdg hi (xal_has hl) hn rfl (fun lsB hB => k p l e R s m args below meth cd D tc ad A H locs cells slots lsB hK (xst2_has (v := .inr (.inl a)) (fun _ _ => xal_mem) hB) hP hS hcs)
theorem x_lstore {i : Nat} {a : Int} (hdg : decode mi.2.1 pc = .ok (.lstore i, 2)) (hn : i + 1 < mi.2.2.1) (hls : xst2 ls i (.inr (.inl a)) = ls') (k : xG wd d mi (pc + 2) ls' st h Q) : xG wd d mi pc ls (.inr (.inl a) :: st) h Q := by
  intro p l e R s m args below meth cd D tc ad A H locs cells slots lsA hK hl hP hS hcs
  subst hls
  exact lv_lstore hK.1 hK.2.1 hdg (xal_has hl) hn rfl (fun lsB hB => k p l e R s m args below meth cd D tc ad A H locs cells slots lsB hK (xst2_has (v := .inr (.inl a)) (fun _ _ => xal_mem) hB) hP hS hcs)
theorem x_aload_n {q : Fin 4} {i : Nat} {a : Nat} (hdg : decode mi.2.1 pc = .ok (.aload_n q, 1)) (hi : (q : Nat) = i) (hv : ls[i]? = some (some (.inr (.inr a)))) (k : xG wd d mi (pc + 1) ls (.inr (.inr a) :: st) h Q) : xG wd d mi pc ls st h Q := by
  intro p l e R s m args below meth cd D tc ad A H locs cells slots lsA hK hl hP hS hcs
  exact lv_aload_n hK.1 hK.2.1 hdg hi (hl.2.2 i _ hv) (k p l e R s m args below meth cd D tc ad A H locs cells slots lsA hK hl hP hS hcs)
theorem x_aload {i : Nat} {a : Nat} (hdg : decode mi.2.1 pc = .ok (.aload i, 2)) (hv : ls[i]? = some (some (.inr (.inr a)))) (k : xG wd d mi (pc + 2) ls (.inr (.inr a) :: st) h Q) : xG wd d mi pc ls st h Q := by
  intro p l e R s m args below meth cd D tc ad A H locs cells slots lsA hK hl hP hS hcs
  exact lv_aload hK.1 hK.2.1 hdg (hl.2.2 i _ hv) (k p l e R s m args below meth cd D tc ad A H locs cells slots lsA hK hl hP hS hcs)
theorem x_astore_n {q : Fin 4} {i : Nat} {a : Nat} (hdg : decode mi.2.1 pc = .ok (.astore_n q, 1)) (hi : (q : Nat) = i) (hn : i < mi.2.2.1) (hls : xst1 ls i (.inr (.inr a)) = ls') (k : xG wd d mi (pc + 1) ls' st h Q) : xG wd d mi pc ls (.inr (.inr a) :: st) h Q := by
  intro p l e R s m args below meth cd D tc ad A H locs cells slots lsA hK hl hP hS hcs
  subst hls
  exact lv_astore_n hK.1 hK.2.1 hdg hi (xal_has hl) hn rfl (fun lsB hB => k p l e R s m args below meth cd D tc ad A H locs cells slots lsB hK (xst1_has (v := .inr (.inr a)) (fun _ _ => xal_mem) hB) hP hS hcs)
theorem x_astore {i : Nat} {a : Nat} (hdg : decode mi.2.1 pc = .ok (.astore i, 2)) (hn : i < mi.2.2.1) (hls : xst1 ls i (.inr (.inr a)) = ls') (k : xG wd d mi (pc + 2) ls' st h Q) : xG wd d mi pc ls (.inr (.inr a) :: st) h Q := by
  intro p l e R s m args below meth cd D tc ad A H locs cells slots lsA hK hl hP hS hcs
  subst hls
  exact lv_astore hK.1 hK.2.1 hdg (xal_has hl) hn rfl (fun lsB hB => k p l e R s m args below meth cd D tc ad A H locs cells slots lsB hK (xst1_has (v := .inr (.inr a)) (fun _ _ => xal_mem) hB) hP hS hcs)
theorem x_iinc {i : Nat} {n a : Int} (hdg : decode mi.2.1 pc = .ok (.iinc i n, 3)) (hn : i < mi.2.2.1) (hv : ls[i]? = some (some (.inl a))) (hls : xst1 ls i (.inl (a + n)) = ls') (k : xG wd d mi (pc + 3) ls' st h Q) : xG wd d mi pc ls st h Q := by
  intro p l e R s m args below meth cd D tc ad A H locs cells slots lsA hK hl hP hS hcs
  subst hls
  have hB0 := xal_has hl
  have h0 : lv_has lsA mi.2.2.1 ((i, .int (Int32.ofInt a)) :: xal ad ls) := ⟨hB0.1, hB0.2.1, fun q hq => by rcases List.mem_cons.mp hq with rfl | hq; exact hl.2.2 i _ hv; exact hB0.2.2 q hq⟩
  exact lv_iinc (k := 0) (x := Int32.ofInt a) (v := Int32.ofInt (a + n)) hK.1 hK.2.1 hdg h0 rfl (Int32.ofInt_add a n).symm hn rfl (fun lsB hB => k p l e R s m args below meth cd D tc ad A H locs cells slots lsB hK (xst1_has (v := .inl (a + n)) (fun _ _ hq => List.mem_cons_of_mem _ (xal_mem hq)) hB) hP hS hcs)
theorem x_iadd {a b : Int} (hdg : decode mi.2.1 pc = .ok (.iadd, 1)) (k : xG wd d mi (pc + 1) ls (.inl (a + b) :: st) h Q) : xG wd d mi pc ls (.inl b :: .inl a :: st) h Q := by
  intro p l e R s m args below meth cd D tc ad A H locs cells slots lsA hK hl hP hS hcs
  have kk := k p l e R s m args below meth cd D tc ad A H locs cells slots lsA hK hl hP hS hcs
  refine lv_iadd hK.1 hK.2.1 hdg ?_
  rw [← show Int32.ofInt (a + b) = _ from Int32.ofInt_add a b]
  exact kk
theorem x_isub {a b : Int} (hdg : decode mi.2.1 pc = .ok (.isub, 1)) (k : xG wd d mi (pc + 1) ls (.inl (a - b) :: st) h Q) : xG wd d mi pc ls (.inl b :: .inl a :: st) h Q := by
  intro p l e R s m args below meth cd D tc ad A H locs cells slots lsA hK hl hP hS hcs
  have kk := k p l e R s m args below meth cd D tc ad A H locs cells slots lsA hK hl hP hS hcs
  refine lv_isub hK.1 hK.2.1 hdg ?_
  rw [← show Int32.ofInt (a - b) = _ from Int32.ofInt_sub a b]
  exact kk
theorem x_imul {a b : Int} (hdg : decode mi.2.1 pc = .ok (.imul, 1)) (k : xG wd d mi (pc + 1) ls (.inl (a * b) :: st) h Q) : xG wd d mi pc ls (.inl b :: .inl a :: st) h Q := by
  intro p l e R s m args below meth cd D tc ad A H locs cells slots lsA hK hl hP hS hcs
  have kk := k p l e R s m args below meth cd D tc ad A H locs cells slots lsA hK hl hP hS hcs
  refine lv_imul hK.1 hK.2.1 hdg ?_
  rw [← show Int32.ofInt (a * b) = _ from Int32.ofInt_mul a b]
  exact kk
theorem x_iand {a b : Int} (hdg : decode mi.2.1 pc = .ok (.iand, 1)) (k : xG wd d mi (pc + 1) ls (.inl (xandI a b) :: st) h Q) : xG wd d mi pc ls (.inl b :: .inl a :: st) h Q := by
  intro p l e R s m args below meth cd D tc ad A H locs cells slots lsA hK hl hP hS hcs
  have kk := k p l e R s m args below meth cd D tc ad A H locs cells slots lsA hK hl hP hS hcs
  refine lv_iand hK.1 hK.2.1 hdg ?_
  rw [← show Int32.ofInt (xandI a b) = _ from (i32_and a b).symm]
  exact kk
theorem x_ior {a b : Int} (hdg : decode mi.2.1 pc = .ok (.ior, 1)) (k : xG wd d mi (pc + 1) ls (.inl (xorI a b) :: st) h Q) : xG wd d mi pc ls (.inl b :: .inl a :: st) h Q := by
  intro p l e R s m args below meth cd D tc ad A H locs cells slots lsA hK hl hP hS hcs
  have kk := k p l e R s m args below meth cd D tc ad A H locs cells slots lsA hK hl hP hS hcs
  refine lv_ior hK.1 hK.2.1 hdg ?_
  rw [← show Int32.ofInt (xorI a b) = _ from (i32_or a b).symm]
  exact kk
theorem x_ixor {a b : Int} (hdg : decode mi.2.1 pc = .ok (.ixor, 1)) (k : xG wd d mi (pc + 1) ls (.inl (xxorI a b) :: st) h Q) : xG wd d mi pc ls (.inl b :: .inl a :: st) h Q := by
  intro p l e R s m args below meth cd D tc ad A H locs cells slots lsA hK hl hP hS hcs
  have kk := k p l e R s m args below meth cd D tc ad A H locs cells slots lsA hK hl hP hS hcs
  refine lv_ixor hK.1 hK.2.1 hdg ?_
  rw [← show Int32.ofInt (xxorI a b) = _ from (i32_xor a b).symm]
  exact kk
theorem x_ladd {a b : Int} (hdg : decode mi.2.1 pc = .ok (.ladd, 1)) (k : xG wd d mi (pc + 1) ls (.inr (.inl (a + b)) :: st) h Q) : xG wd d mi pc ls (.inr (.inl b) :: .inr (.inl a) :: st) h Q := by
  intro p l e R s m args below meth cd D tc ad A H locs cells slots lsA hK hl hP hS hcs
  have kk := k p l e R s m args below meth cd D tc ad A H locs cells slots lsA hK hl hP hS hcs
  refine lv_ladd hK.1 hK.2.1 hdg ?_
  rw [← show Int64.ofInt (a + b) = _ from Int64.ofInt_add a b]
  exact kk
theorem x_lsub {a b : Int} (hdg : decode mi.2.1 pc = .ok (.lsub, 1)) (k : xG wd d mi (pc + 1) ls (.inr (.inl (a - b)) :: st) h Q) : xG wd d mi pc ls (.inr (.inl b) :: .inr (.inl a) :: st) h Q := by
  intro p l e R s m args below meth cd D tc ad A H locs cells slots lsA hK hl hP hS hcs
  have kk := k p l e R s m args below meth cd D tc ad A H locs cells slots lsA hK hl hP hS hcs
  refine lv_lsub hK.1 hK.2.1 hdg ?_
  rw [← show Int64.ofInt (a - b) = _ from Int64.ofInt_sub a b]
  exact kk
theorem x_land {a b : Int} (hdg : decode mi.2.1 pc = .ok (.land, 1)) (k : xG wd d mi (pc + 1) ls (.inr (.inl (xandL a b)) :: st) h Q) : xG wd d mi pc ls (.inr (.inl b) :: .inr (.inl a) :: st) h Q := by
  intro p l e R s m args below meth cd D tc ad A H locs cells slots lsA hK hl hP hS hcs
  have kk := k p l e R s m args below meth cd D tc ad A H locs cells slots lsA hK hl hP hS hcs
  refine lv_land hK.1 hK.2.1 hdg ?_
  rw [← show Int64.ofInt (xandL a b) = _ from (i64_and a b).symm]
  exact kk
theorem x_lor {a b : Int} (hdg : decode mi.2.1 pc = .ok (.lor, 1)) (k : xG wd d mi (pc + 1) ls (.inr (.inl (xorL a b)) :: st) h Q) : xG wd d mi pc ls (.inr (.inl b) :: .inr (.inl a) :: st) h Q := by
  intro p l e R s m args below meth cd D tc ad A H locs cells slots lsA hK hl hP hS hcs
  have kk := k p l e R s m args below meth cd D tc ad A H locs cells slots lsA hK hl hP hS hcs
  refine lv_lor hK.1 hK.2.1 hdg ?_
  rw [← show Int64.ofInt (xorL a b) = _ from (i64_or a b).symm]
  exact kk
theorem x_lxor {a b : Int} (hdg : decode mi.2.1 pc = .ok (.lxor, 1)) (k : xG wd d mi (pc + 1) ls (.inr (.inl (xxorL a b)) :: st) h Q) : xG wd d mi pc ls (.inr (.inl b) :: .inr (.inl a) :: st) h Q := by
  intro p l e R s m args below meth cd D tc ad A H locs cells slots lsA hK hl hP hS hcs
  have kk := k p l e R s m args below meth cd D tc ad A H locs cells slots lsA hK hl hP hS hcs
  refine lv_lxor hK.1 hK.2.1 hdg ?_
  rw [← show Int64.ofInt (xxorL a b) = _ from (i64_xor a b).symm]
  exact kk
theorem x_ineg {a : Int} (hdg : decode mi.2.1 pc = .ok (.ineg, 1)) (k : xG wd d mi (pc + 1) ls (.inl (-a) :: st) h Q) : xG wd d mi pc ls (.inl a :: st) h Q := by
  intro p l e R s m args below meth cd D tc ad A H locs cells slots lsA hK hl hP hS hcs
  have kk := k p l e R s m args below meth cd D tc ad A H locs cells slots lsA hK hl hP hS hcs
  refine lv_ineg hK.1 hK.2.1 hdg ?_
  rw [← Int32.ofInt_neg]
  exact kk
theorem x_ishl {a b : Int} (hdg : decode mi.2.1 pc = .ok (.ishl, 1)) (hg : 0 ≤ b ∧ b ≤ 31) (k : xG wd d mi (pc + 1) ls (.inl (a * 2 ^ b.toNat) :: st) h Q) : xG wd d mi pc ls (.inl b :: .inl a :: st) h Q := by
  intro p l e R s m args below meth cd D tc ad A H locs cells slots lsA hK hl hP hS hcs
  have kk := k p l e R s m args below meth cd D tc ad A H locs cells slots lsA hK hl hP hS hcs
  refine lv_ishl hK.1 hK.2.1 hdg ?_
  rw [i32_shl a hg.1 hg.2]
  exact kk
theorem x_ishr {a b : Int} (hdg : decode mi.2.1 pc = .ok (.ishr, 1)) (hg : inI a ∧ 0 ≤ b ∧ b ≤ 31) (k : xG wd d mi (pc + 1) ls (.inl (a / 2 ^ b.toNat) :: st) h Q) : xG wd d mi pc ls (.inl b :: .inl a :: st) h Q := by
  intro p l e R s m args below meth cd D tc ad A H locs cells slots lsA hK hl hP hS hcs
  have kk := k p l e R s m args below meth cd D tc ad A H locs cells slots lsA hK hl hP hS hcs
  refine lv_ishr hK.1 hK.2.1 hdg ?_
  rw [i32_shr hg.1 hg.2.1 hg.2.2]
  exact kk
theorem x_iushr {a b : Int} (hdg : decode mi.2.1 pc = .ok (.iushr, 1)) (hg : (0 ≤ a ∧ inI a) ∧ 0 ≤ b ∧ b ≤ 31) (k : xG wd d mi (pc + 1) ls (.inl (a / 2 ^ b.toNat) :: st) h Q) : xG wd d mi pc ls (.inl b :: .inl a :: st) h Q := by
  intro p l e R s m args below meth cd D tc ad A H locs cells slots lsA hK hl hP hS hcs
  have kk := k p l e R s m args below meth cd D tc ad A H locs cells slots lsA hK hl hP hS hcs
  exact lv_iushr hK.1 hK.2.1 hdg (i32_ushr hg.1.1 hg.1.2 hg.2.1 hg.2.2) kk
theorem x_lshl {a b : Int} (hdg : decode mi.2.1 pc = .ok (.lshl, 1)) (hg : 0 ≤ b ∧ b ≤ 63) (k : xG wd d mi (pc + 1) ls (.inr (.inl (a * 2 ^ b.toNat)) :: st) h Q) : xG wd d mi pc ls (.inl b :: .inr (.inl a) :: st) h Q := by
  intro p l e R s m args below meth cd D tc ad A H locs cells slots lsA hK hl hP hS hcs
  have kk := k p l e R s m args below meth cd D tc ad A H locs cells slots lsA hK hl hP hS hcs
  exact lv_lshl hK.1 hK.2.1 hdg (i64_shl a hg.1 hg.2) kk
theorem x_lshr {a b : Int} (hdg : decode mi.2.1 pc = .ok (.lshr, 1)) (hg : inL a ∧ 0 ≤ b ∧ b ≤ 63) (k : xG wd d mi (pc + 1) ls (.inr (.inl (a / 2 ^ b.toNat)) :: st) h Q) : xG wd d mi pc ls (.inl b :: .inr (.inl a) :: st) h Q := by
  intro p l e R s m args below meth cd D tc ad A H locs cells slots lsA hK hl hP hS hcs
  have kk := k p l e R s m args below meth cd D tc ad A H locs cells slots lsA hK hl hP hS hcs
  exact lv_lshr hK.1 hK.2.1 hdg (i64_shr hg.1 hg.2.1 hg.2.2) kk
theorem x_idiv {a b : Int} (hdg : decode mi.2.1 pc = .ok (.idiv, 1)) (hg : (0 ≤ a ∧ inI a) ∧ 0 < b ∧ inI b) (k : xG wd d mi (pc + 1) ls (.inl (a / b) :: st) h Q) : xG wd d mi pc ls (.inl b :: .inl a :: st) h Q := by
  intro p l e R s m args below meth cd D tc ad A H locs cells slots lsA hK hl hP hS hcs
  have kk := k p l e R s m args below meth cd D tc ad A H locs cells slots lsA hK hl hP hS hcs
  refine lv_idiv hK.1 hK.2.1 hdg (i32_ne0 hg.2.1 hg.2.2) ?_
  rw [i32_div hg.1.1 hg.1.2 hg.2.1 hg.2.2]
  exact kk
theorem x_irem {a b : Int} (hdg : decode mi.2.1 pc = .ok (.irem, 1)) (hg : (0 ≤ a ∧ inI a) ∧ 0 < b ∧ inI b) (k : xG wd d mi (pc + 1) ls (.inl (a % b) :: st) h Q) : xG wd d mi pc ls (.inl b :: .inl a :: st) h Q := by
  intro p l e R s m args below meth cd D tc ad A H locs cells slots lsA hK hl hP hS hcs
  have kk := k p l e R s m args below meth cd D tc ad A H locs cells slots lsA hK hl hP hS hcs
  refine lv_irem hK.1 hK.2.1 hdg (i32_ne0 hg.2.1 hg.2.2) ?_
  rw [i32_rem hg.1.1 hg.1.2 hg.2.1 hg.2.2]
  exact kk
theorem x_i2l {a : Int} (hdg : decode mi.2.1 pc = .ok (.i2l, 1)) (hg : inI a) (k : xG wd d mi (pc + 1) ls (.inr (.inl a) :: st) h Q) : xG wd d mi pc ls (.inl a :: st) h Q := by
  intro p l e R s m args below meth cd D tc ad A H locs cells slots lsA hK hl hP hS hcs
  exact lv_i2l hK.1 hK.2.1 hdg (i32_l hg) (k p l e R s m args below meth cd D tc ad A H locs cells slots lsA hK hl hP hS hcs)
theorem x_lcmp {a b : Int} (hdg : decode mi.2.1 pc = .ok (.lcmp, 1)) (hg : inL a ∧ inL b) (k : xG wd d mi (pc + 1) ls (.inl (xcmp a b) :: st) h Q) : xG wd d mi pc ls (.inr (.inl b) :: .inr (.inl a) :: st) h Q := by
  intro p l e R s m args below meth cd D tc ad A H locs cells slots lsA hK hl hP hS hcs
  have kk := k p l e R s m args below meth cd D tc ad A H locs cells slots lsA hK hl hP hS hcs
  refine W.lcmp hK.1 hK.2.1 hdg ?_
  rw [i64_cmp hg.1 hg.2]
  exact kk
theorem x_dup {v : xV} (hdg : decode mi.2.1 pc = .ok (.dup, 1)) (hv : xcat v = 1) (k : xG wd d mi (pc + 1) ls (v :: v :: st) h Q) : xG wd d mi pc ls (v :: st) h Q := by
  intro p l e R s m args below meth cd D tc ad A H locs cells slots lsA hK hl hP hS hcs
  exact lv_dup hK.1 hK.2.1 hdg (by rw [xcat_eq]; exact hv) (k p l e R s m args below meth cd D tc ad A H locs cells slots lsA hK hl hP hS hcs)
theorem x_dup2 {v u : xV} (hdg : decode mi.2.1 pc = .ok (.dup2, 1)) (hv : xcat v = 1) (hu : xcat u = 1) (k : xG wd d mi (pc + 1) ls (v :: u :: v :: u :: st) h Q) : xG wd d mi pc ls (v :: u :: st) h Q := by
  intro p l e R s m args below meth cd D tc ad A H locs cells slots lsA hK hl hP hS hcs
  exact lv_dup2_11 hK.1 hK.2.1 hdg (by rw [xcat_eq]; exact hv) (by rw [xcat_eq]; exact hu) (k p l e R s m args below meth cd D tc ad A H locs cells slots lsA hK hl hP hS hcs)
theorem x_pop {v : xV} (hdg : decode mi.2.1 pc = .ok (.pop, 1)) (hv : xcat v = 1) (k : xG wd d mi (pc + 1) ls st h Q) : xG wd d mi pc ls (v :: st) h Q := by
  intro p l e R s m args below meth cd D tc ad A H locs cells slots lsA hK hl hP hS hcs
  exact lv_pop hK.1 hK.2.1 hdg (by rw [xcat_eq]; exact hv) (k p l e R s m args below meth cd D tc ad A H locs cells slots lsA hK hl hP hS hcs)
theorem x_goto {off : Int} {tgt : Nat} (hdg : decode mi.2.1 pc = .ok (.goto off, 3)) (ht : (pc : Int) + off = (tgt : Int)) (k : xG wd d mi tgt ls st h Q) : xG wd d mi pc ls st h Q := by
  intro p l e R s m args below meth cd D tc ad A H locs cells slots lsA hK hl hP hS hcs
  exact lv_goto hK.1 hK.2.1 hdg ht (k p l e R s m args below meth cd D tc ad A H locs cells slots lsA hK hl hP hS hcs)
theorem x_icmp_eq {a b : Int} {off : Int} {tgt : Nat} (hdg : decode mi.2.1 pc = .ok (.if_icmp .eq off, 3)) (ht : (pc : Int) + off = (tgt : Int)) (hg : inI a ∧ inI b) (kt : a = b → xG wd d mi tgt ls st h Q) (kf : ¬ a = b → xG wd d mi (pc + 3) ls st h Q) : xG wd d mi pc ls (.inl b :: .inl a :: st) h Q := by
  intro p l e R s m args below meth cd D tc ad A H locs cells slots lsA hK hl hP hS hcs
  exact lv_icmp_eq hK.1 hK.2.1 hdg ht (fun hc => kt ((i32_eq hg.1 hg.2).mp hc) p l e R s m args below meth cd D tc ad A H locs cells slots lsA hK hl hP hS hcs) (fun hc => kf (fun z => hc ((i32_eq hg.1 hg.2).mpr z)) p l e R s m args below meth cd D tc ad A H locs cells slots lsA hK hl hP hS hcs)
theorem x_if_eq {a : Int} {off : Int} {tgt : Nat} (hdg : decode mi.2.1 pc = .ok (.ifCond .eq off, 3)) (ht : (pc : Int) + off = (tgt : Int)) (hg : inI a) (kt : a = 0 → xG wd d mi tgt ls st h Q) (kf : ¬ a = 0 → xG wd d mi (pc + 3) ls st h Q) : xG wd d mi pc ls (.inl a :: st) h Q := by
  intro p l e R s m args below meth cd D tc ad A H locs cells slots lsA hK hl hP hS hcs
  exact lv_if_eq hK.1 hK.2.1 hdg ht (fun hc => kt ((i32_eq hg inI_0).mp hc) p l e R s m args below meth cd D tc ad A H locs cells slots lsA hK hl hP hS hcs) (fun hc => kf (fun z => hc ((i32_eq hg inI_0).mpr z)) p l e R s m args below meth cd D tc ad A H locs cells slots lsA hK hl hP hS hcs)
theorem x_icmp_ne {a b : Int} {off : Int} {tgt : Nat} (hdg : decode mi.2.1 pc = .ok (.if_icmp .ne off, 3)) (ht : (pc : Int) + off = (tgt : Int)) (hg : inI a ∧ inI b) (kt : ¬ a = b → xG wd d mi tgt ls st h Q) (kf : a = b → xG wd d mi (pc + 3) ls st h Q) : xG wd d mi pc ls (.inl b :: .inl a :: st) h Q := by
  intro p l e R s m args below meth cd D tc ad A H locs cells slots lsA hK hl hP hS hcs
  exact lv_icmp_ne hK.1 hK.2.1 hdg ht (fun hc => kt (fun z => hc ((i32_eq hg.1 hg.2).mpr z)) p l e R s m args below meth cd D tc ad A H locs cells slots lsA hK hl hP hS hcs) (fun hc => kf ((i32_eq hg.1 hg.2).mp hc) p l e R s m args below meth cd D tc ad A H locs cells slots lsA hK hl hP hS hcs)
theorem x_if_ne {a : Int} {off : Int} {tgt : Nat} (hdg : decode mi.2.1 pc = .ok (.ifCond .ne off, 3)) (ht : (pc : Int) + off = (tgt : Int)) (hg : inI a) (kt : ¬ a = 0 → xG wd d mi tgt ls st h Q) (kf : a = 0 → xG wd d mi (pc + 3) ls st h Q) : xG wd d mi pc ls (.inl a :: st) h Q := by
  intro p l e R s m args below meth cd D tc ad A H locs cells slots lsA hK hl hP hS hcs
  exact lv_if_ne hK.1 hK.2.1 hdg ht (fun hc => kt (fun z => hc ((i32_eq hg inI_0).mpr z)) p l e R s m args below meth cd D tc ad A H locs cells slots lsA hK hl hP hS hcs) (fun hc => kf ((i32_eq hg inI_0).mp hc) p l e R s m args below meth cd D tc ad A H locs cells slots lsA hK hl hP hS hcs)
theorem x_icmp_lt {a b : Int} {off : Int} {tgt : Nat} (hdg : decode mi.2.1 pc = .ok (.if_icmp .lt off, 3)) (ht : (pc : Int) + off = (tgt : Int)) (hg : inI a ∧ inI b) (kt : a < b → xG wd d mi tgt ls st h Q) (kf : b ≤ a → xG wd d mi (pc + 3) ls st h Q) : xG wd d mi pc ls (.inl b :: .inl a :: st) h Q := by
  intro p l e R s m args below meth cd D tc ad A H locs cells slots lsA hK hl hP hS hcs
  exact lv_icmp_lt hK.1 hK.2.1 hdg ht (fun hc => kt ((i32_lt hg.1 hg.2).mp hc) p l e R s m args below meth cd D tc ad A H locs cells slots lsA hK hl hP hS hcs) (fun hc => kf (Int.not_lt.mp (fun z => hc ((i32_lt hg.1 hg.2).mpr z))) p l e R s m args below meth cd D tc ad A H locs cells slots lsA hK hl hP hS hcs)
theorem x_if_lt {a : Int} {off : Int} {tgt : Nat} (hdg : decode mi.2.1 pc = .ok (.ifCond .lt off, 3)) (ht : (pc : Int) + off = (tgt : Int)) (hg : inI a) (kt : a < 0 → xG wd d mi tgt ls st h Q) (kf : 0 ≤ a → xG wd d mi (pc + 3) ls st h Q) : xG wd d mi pc ls (.inl a :: st) h Q := by
  intro p l e R s m args below meth cd D tc ad A H locs cells slots lsA hK hl hP hS hcs
  exact lv_if_lt hK.1 hK.2.1 hdg ht (fun hc => kt ((i32_lt hg inI_0).mp hc) p l e R s m args below meth cd D tc ad A H locs cells slots lsA hK hl hP hS hcs) (fun hc => kf (Int.not_lt.mp (fun z => hc ((i32_lt hg inI_0).mpr z))) p l e R s m args below meth cd D tc ad A H locs cells slots lsA hK hl hP hS hcs)
theorem x_icmp_ge {a b : Int} {off : Int} {tgt : Nat} (hdg : decode mi.2.1 pc = .ok (.if_icmp .ge off, 3)) (ht : (pc : Int) + off = (tgt : Int)) (hg : inI a ∧ inI b) (kt : b ≤ a → xG wd d mi tgt ls st h Q) (kf : a < b → xG wd d mi (pc + 3) ls st h Q) : xG wd d mi pc ls (.inl b :: .inl a :: st) h Q := by
  intro p l e R s m args below meth cd D tc ad A H locs cells slots lsA hK hl hP hS hcs
  exact lv_icmp_ge hK.1 hK.2.1 hdg ht (fun hc => kt ((i32_le hg.2 hg.1).mp hc) p l e R s m args below meth cd D tc ad A H locs cells slots lsA hK hl hP hS hcs) (fun hc => kf (Int.not_le.mp (fun z => hc ((i32_le hg.2 hg.1).mpr z))) p l e R s m args below meth cd D tc ad A H locs cells slots lsA hK hl hP hS hcs)
theorem x_if_ge {a : Int} {off : Int} {tgt : Nat} (hdg : decode mi.2.1 pc = .ok (.ifCond .ge off, 3)) (ht : (pc : Int) + off = (tgt : Int)) (hg : inI a) (kt : 0 ≤ a → xG wd d mi tgt ls st h Q) (kf : a < 0 → xG wd d mi (pc + 3) ls st h Q) : xG wd d mi pc ls (.inl a :: st) h Q := by
  intro p l e R s m args below meth cd D tc ad A H locs cells slots lsA hK hl hP hS hcs
  exact lv_if_ge hK.1 hK.2.1 hdg ht (fun hc => kt ((i32_le inI_0 hg).mp hc) p l e R s m args below meth cd D tc ad A H locs cells slots lsA hK hl hP hS hcs) (fun hc => kf (Int.not_le.mp (fun z => hc ((i32_le inI_0 hg).mpr z))) p l e R s m args below meth cd D tc ad A H locs cells slots lsA hK hl hP hS hcs)
theorem x_icmp_gt {a b : Int} {off : Int} {tgt : Nat} (hdg : decode mi.2.1 pc = .ok (.if_icmp .gt off, 3)) (ht : (pc : Int) + off = (tgt : Int)) (hg : inI a ∧ inI b) (kt : b < a → xG wd d mi tgt ls st h Q) (kf : a ≤ b → xG wd d mi (pc + 3) ls st h Q) : xG wd d mi pc ls (.inl b :: .inl a :: st) h Q := by
  intro p l e R s m args below meth cd D tc ad A H locs cells slots lsA hK hl hP hS hcs
  exact lv_icmp_gt hK.1 hK.2.1 hdg ht (fun hc => kt ((i32_lt hg.2 hg.1).mp hc) p l e R s m args below meth cd D tc ad A H locs cells slots lsA hK hl hP hS hcs) (fun hc => kf (Int.not_lt.mp (fun z => hc ((i32_lt hg.2 hg.1).mpr z))) p l e R s m args below meth cd D tc ad A H locs cells slots lsA hK hl hP hS hcs)
theorem x_if_gt {a : Int} {off : Int} {tgt : Nat} (hdg : decode mi.2.1 pc = .ok (.ifCond .gt off, 3)) (ht : (pc : Int) + off = (tgt : Int)) (hg : inI a) (kt : 0 < a → xG wd d mi tgt ls st h Q) (kf : a ≤ 0 → xG wd d mi (pc + 3) ls st h Q) : xG wd d mi pc ls (.inl a :: st) h Q := by
  intro p l e R s m args below meth cd D tc ad A H locs cells slots lsA hK hl hP hS hcs
  exact lv_if_gt hK.1 hK.2.1 hdg ht (fun hc => kt ((i32_lt inI_0 hg).mp hc) p l e R s m args below meth cd D tc ad A H locs cells slots lsA hK hl hP hS hcs) (fun hc => kf (Int.not_lt.mp (fun z => hc ((i32_lt inI_0 hg).mpr z))) p l e R s m args below meth cd D tc ad A H locs cells slots lsA hK hl hP hS hcs)
theorem x_icmp_le {a b : Int} {off : Int} {tgt : Nat} (hdg : decode mi.2.1 pc = .ok (.if_icmp .le off, 3)) (ht : (pc : Int) + off = (tgt : Int)) (hg : inI a ∧ inI b) (kt : a ≤ b → xG wd d mi tgt ls st h Q) (kf : b < a → xG wd d mi (pc + 3) ls st h Q) : xG wd d mi pc ls (.inl b :: .inl a :: st) h Q := by
  intro p l e R s m args below meth cd D tc ad A H locs cells slots lsA hK hl hP hS hcs
  exact lv_icmp_le hK.1 hK.2.1 hdg ht (fun hc => kt ((i32_le hg.1 hg.2).mp hc) p l e R s m args below meth cd D tc ad A H locs cells slots lsA hK hl hP hS hcs) (fun hc => kf (Int.not_le.mp (fun z => hc ((i32_le hg.1 hg.2).mpr z))) p l e R s m args below meth cd D tc ad A H locs cells slots lsA hK hl hP hS hcs)
theorem x_if_le {a : Int} {off : Int} {tgt : Nat} (hdg : decode mi.2.1 pc = .ok (.ifCond .le off, 3)) (ht : (pc : Int) + off = (tgt : Int)) (hg : inI a) (kt : a ≤ 0 → xG wd d mi tgt ls st h Q) (kf : 0 < a → xG wd d mi (pc + 3) ls st h Q) : xG wd d mi pc ls (.inl a :: st) h Q := by
  intro p l e R s m args below meth cd D tc ad A H locs cells slots lsA hK hl hP hS hcs
  exact lv_if_le hK.1 hK.2.1 hdg ht (fun hc => kt ((i32_le hg inI_0).mp hc) p l e R s m args below meth cd D tc ad A H locs cells slots lsA hK hl hP hS hcs) (fun hc => kf (Int.not_le.mp (fun z => hc ((i32_le hg inI_0).mpr z))) p l e R s m args below meth cd D tc ad A H locs cells slots lsA hK hl hP hS hcs)
theorem x_tswOut {a dflt lo hi : Int} {offs : Array Int} {len tgt : Nat} (hdg : decode mi.2.1 pc = .ok (.tableswitch dflt lo hi offs, len)) (hg : inI a) (hx : a < lo ∨ hi < a) (ht : (pc : Int) + dflt = (tgt : Int)) (k : xG wd d mi tgt ls st h Q) : xG wd d mi pc ls (.inl a :: st) h Q := by
  intro p l e R s m args below meth cd D tc ad A H locs cells slots lsA hK hl hP hS hcs
  exact lv_tableOut hK.1 hK.2.1 hdg (by rw [i32_toInt hg]; exact hx) ht (k p l e R s m args below meth cd D tc ad A H locs cells slots lsA hK hl hP hS hcs)
theorem x_tswAt {a dflt lo hi off : Int} {offs : Array Int} {len tgt n : Nat} (hdg : decode mi.2.1 pc = .ok (.tableswitch dflt lo hi offs, len)) (hg : inI a) (ha : a = lo + n) (hh : lo + n ≤ hi) (ho : offs[n]? = some off) (ht : (pc : Int) + off = (tgt : Int)) (k : xG wd d mi tgt ls st h Q) : xG wd d mi pc ls (.inl a :: st) h Q := by
  intro p l e R s m args below meth cd D tc ad A H locs cells slots lsA hK hl hP hS hcs
  have eI : (Int32.ofInt a).toInt = a := i32_toInt hg
  exact lv_tableIn hK.1 hK.2.1 hdg (by rw [eI]; omega) (by rw [eI]; omega) (by rw [eI, ha, show (lo + (n : Int) - lo).toNat = n by omega]; exact ho) ht (k p l e R s m args below meth cd D tc ad A H locs cells slots lsA hK hl hP hS hcs)
theorem x_lsw {a dflt off : Int} {ps : Array (Int × Int)} {len tgt : Nat} (hdg : decode mi.2.1 pc = .ok (.lookupswitch dflt ps, len)) (hp : (ps.toList.zip (ps.toList.drop 1)).all (fun (a, next) => a.1 < next.1) = true) (hg : inI a) (ho : Op.lookupswitch.offset ps.toList dflt a = off) (ht : (pc : Int) + off = (tgt : Int)) (k : xG wd d mi tgt ls st h Q) : xG wd d mi pc ls (.inl a :: st) h Q := by
  intro p l e R s m args below meth cd D tc ad A H locs cells slots lsA hK hl hP hS hcs
  exact lv_lookup hK.1 hK.2.1 hdg hp (by rw [i32_toInt hg]; exact ho) ht (k p l e R s m args below meth cd D tc ad A H locs cells slots lsA hK hl hP hS hcs)
/-- a field's link: by its own class, or by a nest mate -/
def xFld (own : String) (idx ci k : Nat) : Prop := ∃ C : vw_C, vwCl[ci]? = some C ∧ k < C.2.2 ∧ (∀ w ∈ u_ws C.1 C.2.1 C.2.2, w ∈ tblG) ∧
  (Cond.fieldLink own idx (C.2.1 k).1 (C.2.1 k).2.1 (C.2.1 k).2.2.1 ∈ tblG ∨ ∃ host, Cond.fieldLinkNest own idx (C.2.1 k).1 (C.2.1 k).2.1 (C.2.1 k).2.2.1 host ∈ tblN)
/-- it may be written too -/
def xFldP (ci k : Nat) (ty : FieldType) : Prop := ∃ (C : vw_C) (ty0 : Nat → FieldType), vwCl[ci]? = some C ∧ (∀ k, k < C.2.2 → parseFieldDescriptor (C.2.1 k).2.2.1 = some (ty0 k)) ∧ (∀ a, a < C.2.2 → ∀ b, b < C.2.2 → a ≠ b → (C.2.1 a).2.1 ≠ (C.2.1 b).2.1) ∧ (C.2.1 k).2.2.2 = false ∧ parseFieldDescriptor (C.2.1 k).2.2.1 = some ty
theorem x_get {c ci k idx : Nat} {fs : List (FieldType ⊕ Nat)} {f : FieldType ⊕ Nat} {v : xV} (hF : xFld mi.1.cls idx ci k) (hc : wd[c]? = some (.inr (ci, fs))) (hf : fs[k]? = some f) (hv : ∀ ad, xfv ad h c k f = xc ad v) (hdg : decode mi.2.1 pc = .ok (.getfield idx, 3)) (kk : xG wd d mi (pc + 3) ls (v :: st) h Q) : xG wd d mi pc ls (.inr (.inr c) :: st) h Q := by
  intro p l e R s m args below meth cd D tc ad A H locs cells slots lsA hK hl hP hS hcs
  obtain ⟨⟨C, T, N⟩, h1, h2, h3, h4⟩ := hF
  obtain ⟨hx, hb, hml, hr, hlk, hown, hts, hKK, hN, hi, hAi, hAq, hR, hX⟩ := id hK
  have hin : ∀ w ∈ u_ws C T N, w ∈ xwm mi := fun w hw => List.mem_cons_of_mem _ (h3 w hw)
  have he := xws_get (tc := tc) (ad := ad) (h := h) hc
  have hfv : (fs.mapIdx (xfv ad h c))[k]? = some (xc ad v) := by rw [List.getElem?_mapIdx, hf, ← hv ad]; rfl
  rcases h4 with h4 | ⟨host, h4⟩
  · exact va_get (C := C) (T := T) (N := N) hx hb hts hin hown hKK hP c he h1 k h2 (hts _ (List.mem_cons_of_mem _ h4)) (fun _ h9 => h9) hfv hdg (kk p l e R s m args below meth cd D tc ad A H locs cells slots lsA hK hl hP hS hcs)
  · exact va_getN (C := C) (T := T) (N := N) hx hb hts hin hown hKK hP c he h1 k h2 ((hN _ h4).use rfl) (fun _ h9 => h9) hfv hdg (kk p l e R s m args below meth cd D tc ad A H locs cells slots lsA hK hl hP hS hcs)
theorem x_put {c ci k idx : Nat} {fs : List (FieldType ⊕ Nat)} {ty : FieldType} {v : xV} {ki n : Int} (hF : xFld mi.1.cls idx ci k) (hFP : xFldP ci k ty) (hc : wd[c]? = some (.inr (ci, fs))) (hf : fs[k]? = some (.inl ty)) (hki : (k : Int) = ki) (hv : ∀ ad h, h c k = n → xfv ad h c k (.inl ty) = xc ad v) (hnr : ∀ ad, narrow ty (xc ad v) = xc ad v) (hft : ∀ ad, fits ty (xc ad v) = true) (hdg : decode mi.2.1 pc = .ok (.putfield idx, 3)) (kk : xG wd d mi (pc + 3) ls st (xu h c ki n) Q) : xG wd d mi pc ls (v :: .inr (.inr c) :: st) h Q := by
  intro p l e R s m args below meth cd D tc ad A H locs cells slots lsA hK hl hP hS hcs
  subst hki
  obtain ⟨⟨C, T, N⟩, h1, h2, h3, h4⟩ := hF
  obtain ⟨C2, ty0, g1, g2, g3, g4, g5⟩ := hFP
  have e2 : C2 = (C, T, N) := Option.some.inj (g1.symm.trans h1)
  subst e2
  obtain ⟨hx, hb, hml, hr, hlk, hown, hts, hKK, hN, hi, hAi, hAq, hR, hX⟩ := id hK
  have hin : ∀ w ∈ u_ws C T N, w ∈ xwm mi := fun w hw => List.mem_cons_of_mem _ (h3 w hw)
  have he := xws_get (tc := tc) (ad := ad) (h := h) hc
  have hfl : k < (fs.mapIdx (xfv ad h c)).length := by rw [List.length_mapIdx]; exact (List.getElem?_eq_some_iff.mp hf).1
  have e3 : (xws wd tc ad h).set c (ad c, .inr (ci, (fs.mapIdx (xfv ad h c)).set k (xc ad v))) = xws wd tc ad (xu h c k n) := by
    rw [← hv ad (xu h c k n) (by simp [xu]), xmi_set (h' := xu h c k n) hf (fun j hj => by simp [xu]; omega)]
    exact xws_set (h' := xu h c k n) (e := .inr (ci, fs)) hc (fun c' hc' => xu_oth hc')
  have hD := xD (tc := tc) hi hAi h
  rcases h4 with h4 | ⟨host, h4⟩
  · refine va_put (C := C) (T := T) (N := N) hx hb hts hin ty0 g2 g3 hown hKK hP hD hS c he h1 k h2 (hts _ (List.mem_cons_of_mem _ h4)) (fun _ h9 => h9) g4 g5 (hnr ad) (hft ad) hfl hdg (fun H1 locs1 hP1 hD1 hS1 => ?_)
    rw [e3] at hP1
    exact kk p l e R s m args below meth cd D tc ad A H1 locs1 cells slots lsA hK hl hP1 hS1 hcs
  · refine va_putN (C := C) (T := T) (N := N) hx hb hts hin ty0 g2 g3 hown hKK hP hD hS c he h1 k h2 ((hN _ h4).use rfl) (fun _ h9 => h9) g4 g5 (hnr ad) (hft ad) hfl hdg (fun H1 locs1 hP1 hD1 hS1 => ?_)
    rw [e3] at hP1
    exact kk p l e R s m args below meth cd D tc ad A H1 locs1 cells slots lsA hK hl hP1 hS1 hcs
theorem x_getI {c ci k idx : Nat} {fs : List (FieldType ⊕ Nat)} {ty : FieldType} {ki : Int} (hF : xFld mi.1.cls idx ci k) (hc : wd[c]? = some (.inr (ci, fs))) (hf : fs[k]? = some (.inl ty)) (hty : ty ≠ .long) (hki : (k : Int) = ki) (hdg : decode mi.2.1 pc = .ok (.getfield idx, 3)) (kk : xG wd d mi (pc + 3) ls (.inl (h c ki) :: st) h Q) : xG wd d mi pc ls (.inr (.inr c) :: st) h Q := by
  subst hki
  exact x_get hF hc hf (fun ad => by unfold xfv; split <;> simp_all [xc]) hdg kk
theorem x_getL {c ci k idx : Nat} {fs : List (FieldType ⊕ Nat)} {ki : Int} (hF : xFld mi.1.cls idx ci k) (hc : wd[c]? = some (.inr (ci, fs))) (hf : fs[k]? = some (.inl .long)) (hki : (k : Int) = ki) (hdg : decode mi.2.1 pc = .ok (.getfield idx, 3)) (kk : xG wd d mi (pc + 3) ls (.inr (.inl (h c ki)) :: st) h Q) : xG wd d mi pc ls (.inr (.inr c) :: st) h Q := by
  subst hki
  exact x_get hF hc hf (fun ad => rfl) hdg kk
theorem x_getR {c ci k idx c' : Nat} {fs : List (FieldType ⊕ Nat)} (hF : xFld mi.1.cls idx ci k) (hc : wd[c]? = some (.inr (ci, fs))) (hf : fs[k]? = some (.inr c')) (hdg : decode mi.2.1 pc = .ok (.getfield idx, 3)) (kk : xG wd d mi (pc + 3) ls (.inr (.inr c') :: st) h Q) : xG wd d mi pc ls (.inr (.inr c) :: st) h Q :=
  x_get hF hc hf (fun ad => rfl) hdg kk
theorem x_putI {c ci k idx : Nat} {fs : List (FieldType ⊕ Nat)} {ki n : Int} (hF : xFld mi.1.cls idx ci k) (hFP : xFldP ci k .int) (hc : wd[c]? = some (.inr (ci, fs))) (hf : fs[k]? = some (.inl .int)) (hki : (k : Int) = ki) (hdg : decode mi.2.1 pc = .ok (.putfield idx, 3)) (kk : xG wd d mi (pc + 3) ls st (xu h c ki n) Q) : xG wd d mi pc ls (.inl n :: .inr (.inr c) :: st) h Q :=
  x_put hF hFP hc hf hki (fun ad h e => by simp [xfv, xc, e]) (fun ad => rfl) (fun ad => rfl) hdg kk
theorem x_putL {c ci k idx : Nat} {fs : List (FieldType ⊕ Nat)} {ki n : Int} (hF : xFld mi.1.cls idx ci k) (hFP : xFldP ci k .long) (hc : wd[c]? = some (.inr (ci, fs))) (hf : fs[k]? = some (.inl .long)) (hki : (k : Int) = ki) (hdg : decode mi.2.1 pc = .ok (.putfield idx, 3)) (kk : xG wd d mi (pc + 3) ls st (xu h c ki n) Q) : xG wd d mi pc ls (.inr (.inl n) :: .inr (.inr c) :: st) h Q :=
  x_put hF hFP hc hf hki (fun ad h e => by simp [xfv, xc, e]) (fun ad => rfl) (fun ad => rfl) hdg kk
theorem x_putZ {c ci k idx : Nat} {fs : List (FieldType ⊕ Nat)} {ki n : Int} (hF : xFld mi.1.cls idx ci k) (hFP : xFldP ci k .boolean) (hc : wd[c]? = some (.inr (ci, fs))) (hf : fs[k]? = some (.inl .boolean)) (hki : (k : Int) = ki) (hg : n = 0 ∨ n = 1) (hdg : decode mi.2.1 pc = .ok (.putfield idx, 3)) (kk : xG wd d mi (pc + 3) ls st (xu h c ki n) Q) : xG wd d mi pc ls (.inl n :: .inr (.inr c) :: st) h Q :=
  x_put hF hFP hc hf hki (fun ad h e => by simp [xfv, xc, e]) (fun ad => by rcases hg with rfl | rfl <;> rfl) (fun ad => by rcases hg with rfl | rfl <;> rfl) hdg kk
theorem x_iald {c n : Nat} {i : Int} (hc : wd[c]? = some (.inl (.int, n))) (hn : n ≤ 2147483647) (hg : 0 ≤ i ∧ i < n) (hdg : decode mi.2.1 pc = .ok (.iaload, 1)) (kk : xG wd d mi (pc + 1) ls (.inl (h c i) :: st) h Q) : xG wd d mi pc ls (.inl i :: .inr (.inr c) :: st) h Q := by
  intro p l e R s m args below meth cd D tc ad A H locs cells slots lsA hK hl hP hS hcs
  have he := xws_get (tc := tc) (ad := ad) (h := h) hc
  have k1 := kk p l e R s m args below meth cd D tc ad A H locs cells slots lsA hK hl hP hS hcs
  refine va_iald hK.1 hK.2.1 hK.2.2.2.2.2.2.2.1 hP c 0 he rfl (i32_in hg.1 hg.2 hn) hdg ?_
  have e1 : (((Int32.ofInt i).toNatClampNeg : Nat) : Int) = i := by rw [i32_clamp hg.1 (by omega)]; omega
  rw [e1]
  exact k1
theorem x_lald {c n : Nat} {i : Int} (hc : wd[c]? = some (.inl (.long, n))) (hn : n ≤ 2147483647) (hg : 0 ≤ i ∧ i < n) (hdg : decode mi.2.1 pc = .ok (.laload, 1)) (kk : xG wd d mi (pc + 1) ls (.inr (.inl (h c i)) :: st) h Q) : xG wd d mi pc ls (.inl i :: .inr (.inr c) :: st) h Q := by
  intro p l e R s m args below meth cd D tc ad A H locs cells slots lsA hK hl hP hS hcs
  have he := xws_get (tc := tc) (ad := ad) (h := h) hc
  have k1 := kk p l e R s m args below meth cd D tc ad A H locs cells slots lsA hK hl hP hS hcs
  refine va_lald hK.1 hK.2.1 hK.2.2.2.2.2.2.2.1 hP c 1 he rfl (i32_in hg.1 hg.2 hn) hdg ?_
  have e1 : (((Int32.ofInt i).toNatClampNeg : Nat) : Int) = i := by rw [i32_clamp hg.1 (by omega)]; omega
  rw [e1]
  exact k1
theorem x_cald {c n : Nat} {i : Int} (hc : wd[c]? = some (.inl (.char, n))) (hn : n ≤ 2147483647) (hg : 0 ≤ i ∧ i < n) (hdg : decode mi.2.1 pc = .ok (.caload, 1)) (kk : xG wd d mi (pc + 1) ls (.inl (h c i) :: st) h Q) : xG wd d mi pc ls (.inl i :: .inr (.inr c) :: st) h Q := by
  intro p l e R s m args below meth cd D tc ad A H locs cells slots lsA hK hl hP hS hcs
  have he := xws_get (tc := tc) (ad := ad) (h := h) hc
  have k1 := kk p l e R s m args below meth cd D tc ad A H locs cells slots lsA hK hl hP hS hcs
  refine va_cald hK.1 hK.2.1 hK.2.2.2.2.2.2.2.1 hP c 3 he rfl (i32_in hg.1 hg.2 hn) hdg ?_
  have e1 : (((Int32.ofInt i).toNatClampNeg : Nat) : Int) = i := by rw [i32_clamp hg.1 (by omega)]; omega
  rw [e1]
  exact k1
theorem x_iast {c n : Nat} {i v : Int} (hc : wd[c]? = some (.inl (.int, n))) (hn : n ≤ 2147483647) (hg : 0 ≤ i ∧ i < n) (hdg : decode mi.2.1 pc = .ok (.iastore, 1)) (kk : xG wd d mi (pc + 1) ls st (xu h c i v) Q) : xG wd d mi pc ls (.inl v :: .inl i :: .inr (.inr c) :: st) h Q := by
  intro p l e R s m args below meth cd D tc ad A H locs cells slots lsA hK hl hP hS hcs
  have he := xws_get (tc := tc) (ad := ad) (h := h) hc
  obtain ⟨hx, hb, hml, hr, hlk, hown, hts, hKK, hN, hi, hAi, hAq, hR, hX⟩ := id hK
  have hD := xD (tc := tc) hi hAi h
  refine va_iast hx hb hKK hP hD hS c 0 he rfl (i32_in hg.1 hg.2 hn) hdg (fun H1 locs1 hP1 hD1 hS1 => ?_)
  have e1 : (Int32.ofInt i).toNatClampNeg = i.toNat := i32_clamp hg.1 (by omega)
  have e2 : upd (fun j : Nat => Int32.ofInt (h c j)) (Int32.ofInt i).toNatClampNeg (Int32.ofInt v) = (fun j : Nat => Int32.ofInt (xu h c i v c j)) := by
    funext j
    rw [e1]
    simp only [upd, xu]
    by_cases hj : j = i.toNat
    · have : (j : Int) = i := by omega
      rw [if_pos hj, if_pos ⟨trivial, this⟩]
    · have : ¬ (j : Int) = i := by omega
      rw [if_neg hj, if_neg (fun z => this z.2)]
  rw [e2] at hP1
  have e3 := xws_set (wd := wd) (tc := tc) (ad := ad) (h := h) (h' := xu h c i v) (e := .inl (.int, n)) hc (fun c' hc' => xu_oth hc')
  exact kk p l e R s m args below meth cd D tc ad A H1 locs1 cells slots lsA hK hl (by rw [← e3]; exact hP1) hS1 hcs
theorem x_last {c n : Nat} {i v : Int} (hc : wd[c]? = some (.inl (.long, n))) (hn : n ≤ 2147483647) (hg : 0 ≤ i ∧ i < n) (hdg : decode mi.2.1 pc = .ok (.lastore, 1)) (kk : xG wd d mi (pc + 1) ls st (xu h c i v) Q) : xG wd d mi pc ls (.inr (.inl v) :: .inl i :: .inr (.inr c) :: st) h Q := by
  intro p l e R s m args below meth cd D tc ad A H locs cells slots lsA hK hl hP hS hcs
  have he := xws_get (tc := tc) (ad := ad) (h := h) hc
  obtain ⟨hx, hb, hml, hr, hlk, hown, hts, hKK, hN, hi, hAi, hAq, hR, hX⟩ := id hK
  have hD := xD (tc := tc) hi hAi h
  refine va_last hx hb hKK hP hD hS c 1 he rfl (i32_in hg.1 hg.2 hn) hdg (fun H1 locs1 hP1 hD1 hS1 => ?_)
  have e1 : (Int32.ofInt i).toNatClampNeg = i.toNat := i32_clamp hg.1 (by omega)
  have e2 : vp_updL (fun j : Nat => Int64.ofInt (h c j)) (Int32.ofInt i).toNatClampNeg (Int64.ofInt v) = (fun j : Nat => Int64.ofInt (xu h c i v c j)) := by
    funext j
    rw [e1]
    simp only [vp_updL, xu]
    by_cases hj : j = i.toNat
    · have : (j : Int) = i := by omega
      rw [if_pos hj, if_pos ⟨trivial, this⟩]
    · have : ¬ (j : Int) = i := by omega
      rw [if_neg hj, if_neg (fun z => this z.2)]
  rw [e2] at hP1
  have e3 := xws_set (wd := wd) (tc := tc) (ad := ad) (h := h) (h' := xu h c i v) (e := .inl (.long, n)) hc (fun c' hc' => xu_oth hc')
  exact kk p l e R s m args below meth cd D tc ad A H1 locs1 cells slots lsA hK hl (by rw [← e3]; exact hP1) hS1 hcs
theorem x_alen {c n : Nat} {ni : Int} (hc : wd[c]? = some (.inl (.int, n))) (hni : (n : Int) = ni) (hdg : decode mi.2.1 pc = .ok (.arraylength, 1)) (kk : xG wd d mi (pc + 1) ls (.inl ni :: st) h Q) : xG wd d mi pc ls (.inr (.inr c) :: st) h Q := by
  intro p l e R s m args below meth cd D tc ad A H locs cells slots lsA hK hl hP hS hcs
  subst hni
  have he := xws_get (tc := tc) (ad := ad) (h := h) hc
  exact va_alen hK.1 hK.2.1 hK.2.2.2.2.2.2.2.1 hP c 0 he (ty := .int) rfl rfl hdg (kk p l e R s m args below meth cd D tc ad A H locs cells slots lsA hK hl hP hS hcs)
theorem x_iret {a : Int} (hr : mi.2.2.2 = some .int) (hdg : decode mi.2.1 pc = .ok (.ireturn, 1)) (hQ : Q (some (.inl a)) h) : xG wd d mi pc ls [.inl a] h Q := by
  intro p l e R s m args below meth cd D tc ad A H locs cells slots lsA hK hl hP hS hcs
  obtain ⟨hx, hb, hml, hrt, hlk, hown, hts, hKK, hN, hi, hAi, hAq, hR, hX⟩ := id hK
  exact W.iret hx hb (hrt.trans hr) (fun t ht hW => ⟨⟨some (.inl a), h, rfl, hQ, by rw [ht]; exact hP⟩, hS.F ht⟩) hS.2.2 hdg
theorem x_zret {a : Int} (hr : mi.2.2.2 = some .boolean) (hdg : decode mi.2.1 pc = .ok (.ireturn, 1)) (hg : a = 0 ∨ a = 1) (hQ : Q (some (.inl a)) h) : xG wd d mi pc ls [.inl a] h Q := by
  intro p l e R s m args below meth cd D tc ad A H locs cells slots lsA hK hl hP hS hcs
  obtain ⟨hx, hb, hml, hrt, hlk, hown, hts, hKK, hN, hi, hAi, hAq, hR, hX⟩ := id hK
  exact W.zret (ty := .boolean) hx hb (hrt.trans hr) (by rcases hg with rfl | rfl <;> rfl) (fun t ht hW => ⟨⟨some (.inl a), h, rfl, hQ, by rw [ht]; exact hP⟩, hS.F ht⟩) hS.2.2 hdg
theorem x_cret {a : Int} {ty : FieldType} (hr : mi.2.2.2 = some ty) (hn : narrow ty (.int (Int32.ofInt a)) = .int (Int32.ofInt a)) (hdg : decode mi.2.1 pc = .ok (.ireturn, 1)) (hQ : Q (some (.inl a)) h) : xG wd d mi pc ls [.inl a] h Q := by
  intro p l e R s m args below meth cd D tc ad A H locs cells slots lsA hK hl hP hS hcs
  obtain ⟨hx, hb, hml, hrt, hlk, hown, hts, hKK, hN, hi, hAi, hAq, hR, hX⟩ := id hK
  exact W.zret (ty := ty) hx hb (hrt.trans hr) hn (fun t ht hW => ⟨⟨some (.inl a), h, rfl, hQ, by rw [ht]; exact hP⟩, hS.F ht⟩) hS.2.2 hdg
theorem x_lret {a : Int} (hr : mi.2.2.2 = some .long) (hdg : decode mi.2.1 pc = .ok (.lreturn, 1)) (hQ : Q (some (.inr (.inl a))) h) : xG wd d mi pc ls [.inr (.inl a)] h Q := by
  intro p l e R s m args below meth cd D tc ad A H locs cells slots lsA hK hl hP hS hcs
  obtain ⟨hx, hb, hml, hrt, hlk, hown, hts, hKK, hN, hi, hAi, hAq, hR, hX⟩ := id hK
  exact W.lret hx hb (hrt.trans hr) (fun t ht hW => ⟨⟨some (.inr (.inl a)), h, rfl, hQ, by rw [ht]; exact hP⟩, hS.F ht⟩) hS.2.2 hdg
theorem x_vret (hr : mi.2.2.2 = none) (hdg : decode mi.2.1 pc = .ok (.return_, 1)) (hQ : Q none h) : xG wd d mi pc ls [] h Q := by
  intro p l e R s m args below meth cd D tc ad A H locs cells slots lsA hK hl hP hS hcs
  obtain ⟨hx, hb, hml, hrt, hlk, hown, hts, hKK, hN, hi, hAi, hAq, hR, hX⟩ := id hK
  exact W.vret hx hb (hrt.trans hr) (fun t ht hW => ⟨⟨none, h, rfl, hQ, by rw [ht]; exact hP⟩, hS.F ht⟩) hS.2.2 hdg
theorem x_aret {a : Nat} {nm : String} (hr : mi.2.2.2 = some (.object nm)) (hdg : decode mi.2.1 pc = .ok (.areturn, 1)) (hQ : Q (some (.inr (.inr a))) h) : xG wd d mi pc ls [.inr (.inr a)] h Q := by
  intro p l e R s m args below meth cd D tc ad A H locs cells slots lsA hK hl hP hS hcs
  obtain ⟨hx, hb, hml, hrt, hlk, hown, hts, hKK, hN, hi, hAi, hAq, hR, hX⟩ := id hK
  exact W.aret hx hb (hrt.trans hr) (Or.inl ⟨nm, rfl⟩) (Or.inr ⟨ad a, rfl⟩) (fun t ht hW => ⟨⟨some (.inr (.inr a)), h, rfl, hQ, by rw [ht]; exact hP⟩, hS.F ht⟩) hS.2.2 hdg
/-- n places of a cell over another one's, from 0 on -/
theorem x_nfw : nativeFrameWords "java/lang/System" "arraycopy" 5 + 11 ≤ 40 := by decide +kernel
def xcp (h : xH) (c0 c1 : Nat) (n : Int) : xH := fun c i => if c = c1 ∧ 0 ≤ i ∧ i < n then h c0 i else h c i
theorem x_copy {c0 c1 n0 n1 idx : Nat} {n : Int} (h0 : wd[c0]? = some (.inl (.int, n0))) (h1 : wd[c1]? = some (.inl (.int, n1))) (hl1 : Cond.methodLink mi.1.cls idx arraycopyName ∈ tblG) (hl2 : Cond.native arraycopyName ∈ tblG) (hl3 : Cond.static arraycopyName ∈ tblG) (hl4 : Cond.initialized "java/lang/System" ∈ tblG) (hg : (0 ≤ n ∧ n ≤ n0) ∧ n ≤ n1 ∧ n0 ≤ 100000) (hrest : (st.map xcat).sum ≤ 8) (hd : 1 ≤ d) (hdg : decode mi.2.1 pc = .ok (.invokestatic idx, 3)) (kk : xG wd d mi (pc + 3) ls st (xcp h c0 c1 n) Q) : xG wd d mi pc ls (.inl n :: .inl 0 :: .inr (.inr c1) :: .inl 0 :: .inr (.inr c0) :: st) h Q := by
  intro p l e R s m args below meth cd D tc ad A H locs cells slots lsA hK hl hP hS hcs
  obtain ⟨hx, hb, hml, hr, hlk, hown, hts, hKK, hN, hi, hAi, hAq, hR, hX⟩ := id hK
  have hD := xD (tc := tc) hi hAi h
  have hin' : (∀ w ∈ tblG, w.before args s = true) := fun w hw => hts w (List.mem_cons_of_mem _ hw)
  have en : (Int32.ofInt n).toNatClampNeg = n.toNat := i32_clamp hg.1.1 (by omega)
  have e0 : (Int32.ofInt 0).toNatClampNeg = 0 := rfl
  refine va_copyi (ty := .int) hx hb (hml.trans hl.1.symm) hown (hin' _ hl1) (hin' _ hl2) (hin' _ hl3) (hin' _ hl4) hKK hP hD hS c0 c1 0 0 (xws_get h0) (xws_get h1) rfl rfl rfl (sp := Int32.ofInt 0) (dp := Int32.ofInt 0) (n := Int32.ofInt n) (by decide) (by decide) (by rw [show (0 : Int32) = Int32.ofInt 0 from rfl, i32_lt ⟨by omega, by omega⟩ inI_0]; omega) (by rw [en, e0]; omega) (by rw [en, e0]; omega) (fun i _ => rfl) (by omega) (by rw [xcat_sum]; have := x_nfw; omega) hdg (fun H1 locs1 hP1 hD1 hS1 => ?_)
  have e2 : va_cpy (fun j : Nat => Int32.ofInt (h c0 j)) (fun j : Nat => Int32.ofInt (h c1 j)) (Int32.ofInt 0).toNatClampNeg (Int32.ofInt 0).toNatClampNeg (Int32.ofInt n).toNatClampNeg = (fun j : Nat => Int32.ofInt (xcp h c0 c1 n c1 j)) := by
    funext j
    rw [e0, en]
    simp only [va_cpy, xcp]
    by_cases hj : j < n.toNat
    · have h2 : (j : Int) < n := by omega
      have h3 : j < 0 + n.toNat := by omega
      simp [h2]
    · have h2 : ¬ (j : Int) < n := by omega
      have h3 : ¬ j < 0 + n.toNat := by omega
      simp [h2]
  rw [e2] at hP1
  have e3 := xws_set (wd := wd) (tc := tc) (ad := ad) (h := h) (h' := xcp h c0 c1 n) (e := .inl (.int, n1)) h1 (fun c' hc' => by funext j; simp [xcp, hc'])
  exact kk p l e R s m args below meth cd D tc ad A H1 locs1 cells slots lsA hK hl (by rw [← e3]; exact hP1) hS1 hcs
theorem x_mmax {a b : Int} {idx : Nat} (hl1 : Cond.methodLink mi.1.cls idx Lib.Math.max.name ∈ tblG) (hl2 : Cond.static Lib.Math.max.name ∈ tblG) (hl3 : Cond.initialized "java/lang/Math" ∈ tblG) (hl4 : Cond.code Lib.Math.max.name Lib.Math.max.code 2 (some .int) ∈ tblG) (hg : inI a ∧ inI b) (hrest : (st.map xcat).sum ≤ 8) (hd : 1 ≤ d) (hdg : decode mi.2.1 pc = .ok (.invokestatic idx, 3)) (kk : xG wd d mi (pc + 3) ls (.inl (max a b) :: st) h Q) : xG wd d mi pc ls (.inl b :: .inl a :: st) h Q := by
  intro p l e R s m args below meth cd D tc ad A H locs cells slots lsA hK hl hP hS hcs
  obtain ⟨hx, hb, hml, hr, hlk, hown, hts, hKK, hN, hi, hAi, hAq, hR, hX⟩ := id hK
  have hin' : (∀ w ∈ tblG, w.before args s = true) := fun w hw => hts w (List.mem_cons_of_mem _ hw)
  have k1 := kk p l e R s m args below meth cd D tc ad A H locs cells slots lsA hK hl hP hS hcs
  refine va_mmax hx hb (hml.trans hl.1.symm) hown (hin' _ hl1) (hin' _ hl2) (hin' _ hl3) (hin' _ hl4) (by omega) (by rw [xcat_sum]; omega) hcs.1 hcs.2 hdg ?_
  rw [show (if Int32.ofInt a < Int32.ofInt b then Int32.ofInt b else Int32.ofInt a) = Int32.ofInt (max a b) from by rw [← apply_ite Int32.ofInt]; simp only [i32_lt hg.1 hg.2]; congr 1; split <;> omega]
  exact k1
theorem x_mmin {a b : Int} {idx : Nat} (hl1 : Cond.methodLink mi.1.cls idx Lib.Math.min.name ∈ tblG) (hl2 : Cond.static Lib.Math.min.name ∈ tblG) (hl3 : Cond.initialized "java/lang/Math" ∈ tblG) (hl4 : Cond.code Lib.Math.min.name Lib.Math.min.code 2 (some .int) ∈ tblG) (hg : inI a ∧ inI b) (hrest : (st.map xcat).sum ≤ 8) (hd : 1 ≤ d) (hdg : decode mi.2.1 pc = .ok (.invokestatic idx, 3)) (kk : xG wd d mi (pc + 3) ls (.inl (min a b) :: st) h Q) : xG wd d mi pc ls (.inl b :: .inl a :: st) h Q := by
  intro p l e R s m args below meth cd D tc ad A H locs cells slots lsA hK hl hP hS hcs
  obtain ⟨hx, hb, hml, hr, hlk, hown, hts, hKK, hN, hi, hAi, hAq, hR, hX⟩ := id hK
  have hin' : (∀ w ∈ tblG, w.before args s = true) := fun w hw => hts w (List.mem_cons_of_mem _ hw)
  have k1 := kk p l e R s m args below meth cd D tc ad A H locs cells slots lsA hK hl hP hS hcs
  refine va_mmin hx hb (hml.trans hl.1.symm) hown (hin' _ hl1) (hin' _ hl2) (hin' _ hl3) (hin' _ hl4) (by omega) (by rw [xcat_sum]; omega) hcs.1 hcs.2 hdg ?_
  rw [show (if Int32.ofInt b < Int32.ofInt a then Int32.ofInt b else Int32.ofInt a) = Int32.ofInt (min a b) from by rw [← apply_ite Int32.ofInt]; simp only [i32_lt hg.2 hg.1]; congr 1; split <;> omega]
  exact k1
theorem x_mabs {a b : Int} {idx : Nat} (hl1 : Cond.methodLink mi.1.cls idx Lib.Math.abs.name ∈ tblG) (hl2 : Cond.static Lib.Math.abs.name ∈ tblG) (hl3 : Cond.initialized "java/lang/Math" ∈ tblG) (hl4 : Cond.code Lib.Math.abs.name Lib.Math.abs.code 1 (some .int) ∈ tblG) (hg : inI a) (hrest : (st.map xcat).sum ≤ 8) (hd : 1 ≤ d) (hdg : decode mi.2.1 pc = .ok (.invokestatic idx, 3)) (kk : xG wd d mi (pc + 3) ls (.inl (max a (-a)) :: st) h Q) : xG wd d mi pc ls (.inl a :: st) h Q := by
  intro p l e R s m args below meth cd D tc ad A H locs cells slots lsA hK hl hP hS hcs
  obtain ⟨hx, hb, hml, hr, hlk, hown, hts, hKK, hN, hi, hAi, hAq, hR, hX⟩ := id hK
  have hin' : (∀ w ∈ tblG, w.before args s = true) := fun w hw => hts w (List.mem_cons_of_mem _ hw)
  have k1 := kk p l e R s m args below meth cd D tc ad A H locs cells slots lsA hK hl hP hS hcs
  refine va_mabs hx hb (hml.trans hl.1.symm) hown (hin' _ hl1) (hin' _ hl2) (hin' _ hl3) (hin' _ hl4) (by omega) (by rw [xcat_sum]; omega) hcs.1 hcs.2 hdg ?_
  rw [show (if 0 ≤ Int32.ofInt a then Int32.ofInt a else 0 - Int32.ofInt a) = Int32.ofInt (max a (-a)) from by rw [show (0 : Int32) = Int32.ofInt 0 from rfl, ← Int32.ofInt_sub, ← apply_ite Int32.ofInt]; simp only [i32_le inI_0 hg]; congr 1; split <;> omega]
  exact k1
end XR
