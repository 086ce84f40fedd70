/-! contracts out of the judgement, and calls -/
def xroom (d : Nat) : Room := { frames := d, cells := 0, slots := 0, locals := 60 * d }
def xPc (wd : List xE) (D : va_G) (tc : Nat → ClassId) (ad : Nat → Nat) (as : List xV) (h : xH) (sz : Nat) : Array Value → State → Prop :=
  va_Pc (as.map (xc ad)) (fun U => U.heap.size = sz ∧ va_P D vwCl (xws wd tc ad h) U.heap ∧ va_K D vwCl (xT tc) U ∧ xN U ∧ xS ad (xA wd ad sz) U U.heap)
theorem xPc_blind {wd : List xE} {D : va_G} {tc : Nat → ClassId} {ad : Nat → Nat} {as : List xV} {h : xH} {sz : Nat} : FrameBlind (xPc wd D tc ad as h sz) := by
  intro a U g mk q
  obtain ⟨q0, q1, qP, qK, qN, qS⟩ := q
  exact ⟨q0, q1, qP, va_K.moved (u := U) (U := U.calling g mk a) (Vm.Alike.refl U.vm) qK, xN.same (u := U) (U := U.calling g mk a) rfl qN, xS.same (u := U) (U := U.calling g mk a) rfl qS⟩
theorem x_met {wd : List xE} {d : Nat} {mj : xM} {as : List xV} {h : xH} {Q : Option xV → xH → Prop} (hy : plainName mj.1.cls = true) (hfit : (xent0 as).length ≤ mj.2.2.1) (hG : xG wd d mj 0 (xent mj.2.2.1 as) [] h Q)
    (l : Launch) (D : va_G) (tc : Nat → ClassId) (ad : Nat → Nat) (hi : ∀ i j, i < wd.length → j < wd.length → ad i = ad j → i = j) (sz : Nat) :
    Met l mj.1 (xwm mj) (xroom d) (xPc wd D tc ad as h sz) (xQ wd D tc ad (xA wd ad sz) Q) 0 0 (xA wd ad sz) := by
  refine Met.ofW (cc := mj.2.1) (maxL := mj.2.2.1) (ret := mj.2.2.2) hy rfl ?_
  intro p e s m args below meth c s₁ B hml hv
  obtain ⟨rfl, hsz, hP, hK, hN, hS⟩ := hv
  have hts := atoms_spec (ws := xwm mj) B.pre
  have hl := lv_entry (as.map (xc ad)) (n := mj.2.2.1) (by rw [lg_sl_len]; exact hfit)
  rw [lg_entry_eq]
  generalize (lg_sl (as.map (xc ad)) ++ List.replicate (mj.2.2.1 - (lg_sl (as.map (xc ad))).length) Slot.unset).toArray = ls at hl ⊢
  subst hsz
  refine hG p l e (headSpec (xwm mj) (xroom d)).room s m _ below meth c D tc ad _ s.heap [] 0 0 ls ?_ ⟨hl.1, hl.2.1, fun k v hk => hl.2.2 (k, xc ad v) (xent_args ad _ as k v hk)⟩ hP va_S.rf ⟨Nat.zero_le _, Nat.zero_le _⟩
  exact ⟨B.exec, B.bytes, hml, B.returns, B.notSynchronized, findClass_of_methodNamed B.named, hts, hK, hN, hi, fun i h => Or.inl ⟨i, h, rfl⟩, fun q h => Or.inr h, ⟨Nat.le_refl _, Nat.le_refl _⟩, hS⟩
theorem x_after {p : Program} {l : Launch} {e : Env} {R : Room} {s : State} {m : MethodId} {args : Array Value} {below : List Frame} {meth : Method} {c : Code} {H : Heap} {locs : List Loc} {cells slots : Nat} {Q : State → Prop}
    {wd : List xE} {D : va_G} {tc : Nat → ClassId} {ad : Nat → Nat} {A A1 : Nat → Prop} {Q1 : Option xV → xH → Prop} {a : Array Value} {pc : Nat} {lsA : Array Slot} {st0 rest : List Value}
    (hr : va_Run p l e R s m args below meth c H locs cells slots 0 0 (F0 m pc lsA st0) rest (xQ wd D tc ad A1 Q1 a) A1) (hS : va_S A s.heap H locs) (hA : ∀ q, A1 q → A q)
    (kk : ∀ (r : Option xV) (h1 : xH) (H1 : Heap) (locs1 : List Loc), Q1 r h1 → va_P D vwCl (xws wd tc ad h1) H1 → va_S A s.heap H1 locs1 → H.size ≤ H1.size → (∀ q : Nat, q < H.size → ¬ A1 q → H1[q]? = H[q]?) → W p l e R s m args below meth c H1 locs1 cells slots Q (F0 m (pc + 3) lsA ((r.map (xc ad)).toList ++ rest))) :
    W p l e R s m args below meth c H locs cells slots Q (F0 m pc lsA st0) := by
  intro T hT X
  obtain ⟨v, st₀, t, T', L, h0, X', hL, e1, e2, ⟨⟨r, h1, hv, hq, hP1⟩, hz, hk⟩, st⟩ := hr T hT X
  cases hv
  rw [h0] at hz hk
  obtain ⟨t2, a1, b1⟩ := kk r h1 T'.heap (locs ++ L) hq (by rw [e1]; exact hP1)
    ⟨Nat.le_trans hS.1 (by rw [e1]; exact hz), fun q g1 g2 => by rw [e1, hk q (Nat.lt_of_lt_of_le g1 hS.1) (fun z => g2 (hA q z))]; exact hS.2.1 q g1 g2, fun q hq => by
      rcases List.mem_append.mp hq with g | g
      · exact hS.2.2 q g
      · exact hA _ (hL q g)⟩ (by rw [e1]; exact hz) (fun q g1 g2 => by rw [e1]; exact hk q g1 g2) T' rfl X'
  exact ⟨t2, st t2 a1, b1⟩
/-- what a call site needs of the tables: kind 0 invokevirtual, 1 invokestatic (plain links), 2, 3 the same by a nest mate -/
def xLink (mi mj : xM) (n idx : Nat) : Prop :=
  Cond.code mj.1 mj.2.1 mj.2.2.1 mj.2.2.2 ∈ tblG ∧ Cond.initialized mj.1.cls ∈ tblG ∧ plainName mj.1.cls = true ∧ mj.2.2.1 ≤ 41 ∧
  (mj.1.cls ≠ "java/lang/invoke/MethodHandle" ∧ mj.1.cls ≠ "java/lang/invoke/VarHandle" ∧ (parseMethodDescriptor mj.1.desc).map (fun d => d.parameters.length) = some n) ∧
  (Cond.methodLink mi.1.cls idx mj.1 ∈ tblG)
def xLinkN (mi mj : xM) (n idx : Nat) : Prop :=
  Cond.code mj.1 mj.2.1 mj.2.2.1 mj.2.2.2 ∈ tblG ∧ Cond.initialized mj.1.cls ∈ tblG ∧ plainName mj.1.cls = true ∧ mj.2.2.1 ≤ 41 ∧
  (mj.1.cls ≠ "java/lang/invoke/MethodHandle" ∧ mj.1.cls ≠ "java/lang/invoke/VarHandle" ∧ (parseMethodDescriptor mj.1.desc).map (fun d => d.parameters.length) = some n) ∧
  (∃ host, Cond.methodLinkNest mi.1.cls idx mj.1 host ∈ tblN)
section XC
variable {wd : List xE} {d : Nat} {mi mj : xM} {pc : Nat} {ls : List (Option xV)} {h : xH} {Q Q1 : Option xV → xH → Prop} {As rest : List xV}
theorem x_pre {s U : State} {H : Heap} {locs : List Loc} {D : va_G} {tc : Nat → ClassId} {ad : Nat → Nat} {A : Nat → Prop} {as : List xV} (hK : va_K D vwCl (xT tc) s) (hN : xN s) (hX : xS ad A s s.heap) (hA1 : ∀ q, xA wd ad H.size q → A q) (hP : va_P D vwCl (xws wd tc ad h) H) (hS : va_S A s.heap H locs)
    (hU : U.heap = H) (hW : s.WarmedH U.vm) : xPc wd D tc ad as h H.size (as.map (xc ad)).toArray U :=
  ⟨rfl, by rw [hU], by rw [hU]; exact hP, va_K.moved hW.alike hK, hN.warm hW, by rw [hU]; exact ((hX.kept hS.2.1).narrow hA1).warm hW⟩
theorem x_rm {R : Room} {n : Nat} (hn : n ≤ 41) (hd : 1 ≤ d) (hr : d ≤ R.frames ∧ 60 * d ≤ R.locals) : (xroom (d - 1)).frames + 1 ≤ R.frames ∧ 8 + (n + 11) + (xroom (d - 1)).locals ≤ R.locals := by
  simp only [xroom]
  omega
theorem x_callV {c idx ci : Nat} {C : vw_C} {fs : List (FieldType ⊕ Nat)} (hL : xLink mi mj As.length idx) (hin : Cond.instanceMethod mj.1 ∈ tblG) (hsel : Cond.selects mj.1.cls mj.1 mj.1 ∈ tblG)
    (hc : wd[c]? = some (.inr (ci, fs))) (hcl : vwCl[ci]? = some C) (hC : C.1 = mj.1.cls) (hfit : (xent0 (.inr (.inr c) :: As)).length ≤ mj.2.2.1) (hrest : (rest.map xcat).sum ≤ 8)
    (hdg : decode mi.2.1 pc = .ok (.invokevirtual idx, 3)) (hd : 1 ≤ d) (hG : xG wd (d - 1) mj 0 (xent mj.2.2.1 (.inr (.inr c) :: As)) [] h Q1)
    (kk : ∀ r h1, Q1 r h1 → xG wd d mi (pc + 3) ls (r.toList ++ rest) h1 Q) : xG wd d mi pc ls (As.reverse ++ .inr (.inr c) :: rest) h Q := by
  intro p l e R s m args below meth cd D tc ad A H locs cells slots lsA hK hl hP hS hcs
  obtain ⟨hx, hb, hml, hr, hlk, hown, hts, hKK, hN, hi, hAi, hAq, hR, hX⟩ := id hK
  have hA1 : ∀ q, xA wd ad H.size q → A q := fun q hq => by
    rcases hq with ⟨i, h1, rfl⟩ | h1
    · exact hAi i h1
    · exact hAq q (Nat.le_trans hS.1 h1)
  have hM := x_met (wd := wd) hL.2.2.1 hfit hG l D tc ad hi H.size
  have hin' : (∀ w ∈ tblG, w.before args s = true) := fun w hw => hts w (List.mem_cons_of_mem _ hw)
  refine x_after (va_runV (C := mj.1.cls) (As := As.map (xc ad)) (rest := rest.map (xc ad)) (n := As.length) (b := ad c) ⟨hx, hb, hml, hown, hts⟩ hM
    ⟨callB_of As.length hts (xgood hL.1) rfl rfl rfl (hin' _ hL.2.1) (hin' _ hL.2.2.2.2.2) hL.2.2.2.2.1 (x_rm hL.2.2.2.1 hd hR), hin' _ hin, hin' _ hsel⟩
    ⟨xPc_blind, by rw [← hC]; exact va_recv hKK hP hcl (xws_get hc), fun U hU hW => x_pre hKK hN hX hA1 hP hS hU hW⟩ rfl (by simp) hl.1 (by simp [xc]) (lv_room (by rw [xcat_sum]; exact hrest)) hdg hcs) hS hA1 ?_
  intro r h1 H1 locs1 hq hP1 hS1 hz1 hk1
  have := kk r h1 hq p l e R s m args below meth cd D tc ad A H1 locs1 cells slots lsA hK hl hP1 hS1 hcs
  cases r <;> simpa using this
theorem x_callS {idx : Nat} (hL : xLink mi mj As.length idx) (hst : Cond.static mj.1 ∈ tblG) (hfit : (xent0 As).length ≤ mj.2.2.1) (hrest : (rest.map xcat).sum ≤ 8)
    (hdg : decode mi.2.1 pc = .ok (.invokestatic idx, 3)) (hd : 1 ≤ d) (hG : xG wd (d - 1) mj 0 (xent mj.2.2.1 As) [] h Q1)
    (kk : ∀ r h1, Q1 r h1 → xG wd d mi (pc + 3) ls (r.toList ++ rest) h1 Q) : xG wd d mi pc ls (As.reverse ++ rest) h Q := by
  intro p l e R s m args below meth cd D tc ad A H locs cells slots lsA hK hl hP hS hcs
  obtain ⟨hx, hb, hml, hr, hlk, hown, hts, hKK, hN, hi, hAi, hAq, hR, hX⟩ := id hK
  have hA1 : ∀ q, xA wd ad H.size q → A q := fun q hq => by
    rcases hq with ⟨i, h1, rfl⟩ | h1
    · exact hAi i h1
    · exact hAq q (Nat.le_trans hS.1 h1)
  have hM := x_met (wd := wd) hL.2.2.1 hfit hG l D tc ad hi H.size
  have hin' : (∀ w ∈ tblG, w.before args s = true) := fun w hw => hts w (List.mem_cons_of_mem _ hw)
  refine x_after (va_runS (As := As.map (xc ad)) (rest := rest.map (xc ad)) (n := As.length) ⟨hx, hb, hml, hown, hts⟩ hM
    ⟨callB_of As.length hts (xgood hL.1) rfl rfl rfl (hin' _ hL.2.1) (hin' _ hL.2.2.2.2.2) hL.2.2.2.2.1 (x_rm hL.2.2.2.1 hd hR), hin' _ hst⟩
    ⟨xPc_blind, fun U hU hW => x_pre hKK hN hX hA1 hP hS hU hW⟩ rfl (by simp) hl.1 (by simp) (lv_room (by rw [xcat_sum]; exact hrest)) hdg hcs) hS hA1 ?_
  intro r h1 H1 locs1 hq hP1 hS1 hz1 hk1
  have := kk r h1 hq p l e R s m args below meth cd D tc ad A H1 locs1 cells slots lsA hK hl hP1 hS1 hcs
  cases r <;> simpa using this
theorem x_callSN {idx : Nat} (hL : xLinkN mi mj As.length idx) (hst : Cond.static mj.1 ∈ tblG) (hfit : (xent0 As).length ≤ mj.2.2.1) (hrest : (rest.map xcat).sum ≤ 8)
    (hdg : decode mi.2.1 pc = .ok (.invokestatic idx, 3)) (hd : 1 ≤ d) (hG : xG wd (d - 1) mj 0 (xent mj.2.2.1 As) [] h Q1)
    (kk : ∀ r h1, Q1 r h1 → xG wd d mi (pc + 3) ls (r.toList ++ rest) h1 Q) : xG wd d mi pc ls (As.reverse ++ rest) h Q := by
  intro p l e R s m args below meth cd D tc ad A H locs cells slots lsA hK hl hP hS hcs
  obtain ⟨hx, hb, hml, hr, hlk, hown, hts, hKK, hN, hi, hAi, hAq, hR, hX⟩ := id hK
  have hA1 : ∀ q, xA wd ad H.size q → A q := fun q hq => by
    rcases hq with ⟨i, h1, rfl⟩ | h1
    · exact hAi i h1
    · exact hAq q (Nat.le_trans hS.1 h1)
  have hM := x_met (wd := wd) hL.2.2.1 hfit hG l D tc ad hi H.size
  have hin' : (∀ w ∈ tblG, w.before args s = true) := fun w hw => hts w (List.mem_cons_of_mem _ hw)
  obtain ⟨host, hnl⟩ := hL.2.2.2.2.2
  refine x_after (va_runSN (As := As.map (xc ad)) (rest := rest.map (xc ad)) (n := As.length) ⟨hx, hb, hml, hown, hts⟩ hM
    ⟨va_cnB As.length hts (xgood hL.1) rfl rfl rfl (hN _ hnl) (hin' _ hL.2.1) hL.2.2.2.2.1 (x_rm hL.2.2.2.1 hd hR), hin' _ hst, trivial⟩
    ⟨xPc_blind, fun U hU hW => x_pre hKK hN hX hA1 hP hS hU hW⟩ rfl (by simp) hl.1 (by simp) (lv_room (by rw [xcat_sum]; exact hrest)) hdg hcs) hS hA1 ?_
  intro r h1 H1 locs1 hq hP1 hS1 hz1 hk1
  have := kk r h1 hq p l e R s m args below meth cd D tc ad A H1 locs1 cells slots lsA hK hl hP1 hS1 hcs
  cases r <;> simpa using this
/-- fewer things known of the locals -/
theorem x_weak {ls' : List (Option xV)} {st : List xV} (hw : ∀ (k : Nat) (v : xV), ls'[k]? = some (some v) → ls[k]? = some (some v)) (k : xG wd d mi pc ls' st h Q) : xG wd d mi pc ls st h Q := by
  intro p l e R s m args below meth cd D tc ad A H locs cells slots lsA hK hl hP hS hcs
  exact k p l e R s m args below meth cd D tc ad A H locs cells slots lsA hK ⟨hl.1, hl.2.1, fun k v hk => hl.2.2 k v (hw k v hk)⟩ hP hS hcs
end XC
