/-! The law's body: both worlds side by side -/
def mLaw : xM := (x, code, 4, ret)
def lwA (s : State) : Nat → Prop := fun q => s.heap.size ≤ q
def lwF (p : Program) (s : State) (m : MethodId) (meth : Method) (c : Code) (b L : Nat) (xs : Nat → Int32) (D : va_G) (tc : Nat → ClassId) (aC aM : Nat → Nat) : Prop :=
  p.tables.exec = Jvm.exec ∧ c.code = code ∧ c.maxLocals = 4 ∧ meth.locks = false ∧ meth.sig.returnType = ret ∧ s.vm.findClass R_law = some m.cls ∧ (∀ w ∈ lw_tbl, w.before #[Value.ref b] s = true) ∧ va_X b L xs s s.heap ∧ b < s.heap.size ∧ L ≤ 2560 ∧
  va_K D vwCl (xT tc) s ∧ xN s ∧ (xS aC (lwA s) s s.heap ∧ xS aM (lwA s) s s.heap) ∧
  ((∀ i j, i < wdC.length → j < wdC.length → aC i = aC j → i = j) ∧ ∀ i, i < wdC.length → lwA s (aC i)) ∧ ((∀ i j, i < wdM.length → j < wdM.length → aM i = aM j → i = j) ∧ ∀ i, i < wdM.length → lwA s (aM i)) ∧ ∀ i j, i < wdC.length → j < wdM.length → aC i ≠ aM j
def lwS (s : State) (D : va_G) (tc : Nat → ClassId) (aC aM : Nat → Nat) (H : Heap) (locs : List Loc) (h k : xH) : Prop := va_P D vwCl (xws wdC tc aC h) H ∧ va_P D vwCl (xws wdM tc aM k) H ∧ va_S (lwA s) s.heap H locs
def lwL (mj : xM) (n idx : Nat) : Prop := xLink mLaw mj n idx ∧ Cond.instanceMethod mj.1 ∈ tblG ∧ Cond.selects mj.1.cls mj.1 mj.1 ∈ tblG
theorem xgoodT {mj : xM} (h : Cond.code mj.1 mj.2.1 mj.2.2.1 mj.2.2.2 ∈ tblG) : GoodIn tblG (xwm mj) := by
  intro w hw
  rcases List.mem_cons.mp hw with rfl | hw
  · exact ⟨h, good_of_word (tblG_good _ h)⟩
  · exact ⟨hw, good_of_word (tblG_good _ hw)⟩
section
variable {p : Program} {l : Launch} {e : Env} {s : State} {m : MethodId} {below : List Frame} {meth : Method} {c : Code} {b L : Nat} {xs : Nat → Int32} {H : Heap} {locs : List Loc} {cells slots : Nat} {Q : State → Prop} {D : va_G} {tc : Nat → ClassId} {aC aM : Nat → Nat} {lsA : Array Slot} {pc : Nat} {rest : List Value} {h k : xH} {i : Nat}
theorem lw_call {wd wd2 : List xE} {ad ad2 : Nat → Nat} {h1 h2 : xH} {mj : xM} {as : List xV} {idx ci : Nat} {C : vw_C} {fs : List (FieldType ⊕ Nat)} {Q1 : Option xV → xH → Prop}
    (hx : p.tables.exec = Jvm.exec) (hb : c.code = code) (hml : c.maxLocals = 4) (hown : s.vm.findClass R_law = some m.cls) (hts0 : ∀ w ∈ lw_tbl, w.before #[Value.ref b] s = true) (hKK : va_K D vwCl (xT tc) s) (hN : xN s) (hX : xS ad (lwA s) s s.heap)
    (hi : (∀ i j, i < wd.length → j < wd.length → ad i = ad j → i = j) ∧ ∀ i, i < wd.length → lwA s (ad i)) (hdis : ∀ i j, i < wd.length → j < wd2.length → ad i ≠ ad2 j)
    (hP1 : va_P D vwCl (xws wd tc ad h1) H) (hP2 : va_P D vwCl (xws wd2 tc ad2 h2) H) (hS : va_S (lwA s) s.heap H locs) (hsz : lsA.size = 4) (hcs : cells ≤ room_1.cells ∧ slots ≤ room_1.slots)
    (hL : lwL mj as.length idx) (hc : wd[0]? = some (.inr (ci, fs))) (hcl : vwCl[ci]? = some C) (hC : C.1 = mj.1.cls) (hfit : (xent0 (.inr (.inr 0) :: as)).length ≤ mj.2.2.1) (hrest : (rest.map fun v => v.category).sum ≤ 8)
    (hdg : decode code pc = .ok (.invokevirtual idx, 3)) (hG : xG wd 30 mj 0 (xent mj.2.2.1 (.inr (.inr 0) :: as)) [] h1 Q1)
    (kk : ∀ (r : Option xV) (h' : xH) (H1 : Heap) (locs1 : List Loc), Q1 r h' → va_P D vwCl (xws wd tc ad h') H1 → va_P D vwCl (xws wd2 tc ad2 h2) H1 → va_S (lwA s) s.heap H1 locs1 → W p l e room_1 s m #[Value.ref b] below meth c H1 locs1 cells slots Q (F0 m (pc + 3) lsA ((r.map (xc ad)).toList ++ rest))) :
    W p l e room_1 s m #[Value.ref b] below meth c H locs cells slots Q (F0 m pc lsA ((as.map (xc ad)).reverse ++ .ref (ad 0) :: rest)) := by
  have hA1 : ∀ q, xA wd ad H.size q → lwA s q := fun q hq => by
    rcases hq with ⟨i, h1, rfl⟩ | h1
    · exact hi.2 i h1
    · exact Nat.le_trans hS.1 h1
  have hts : ∀ w ∈ tblG, w.before #[Value.ref b] s = true := fun w hw => hts0 w (List.mem_filter.mp hw).1
  have hM := x_met (wd := wd) hL.1.2.2.1 hfit hG l D tc ad hi.1 H.size
  refine x_after (va_runV (C := mj.1.cls) (As := as.map (xc ad)) (rest := rest) (n := as.length) (b := ad 0) (own := R_law) ⟨hx, hb, hml, hown, hts⟩ hM
    ⟨callB_of as.length hts (xgoodT hL.1.1) rfl rfl rfl (hts _ hL.1.2.1) (hts _ hL.1.2.2.2.2.2) hL.1.2.2.2.2.1 (by
      have := hL.1.2.2.2.1
      show (xroom 30).frames + 1 ≤ 2048 ∧ 8 + (mj.2.2.1 + 11) + (xroom 30).locals ≤ 84000
      simp only [xroom]; omega), hts _ hL.2.1, hts _ hL.2.2⟩
    ⟨xPc_blind, by rw [← hC]; exact va_recv hKK hP1 hcl (xws_get hc), fun U hU hW => x_pre hKK hN hX hA1 hP1 hS hU hW⟩ rfl (by simp) hsz (by simp) (lv_room hrest) hdg hcs) hS hA1 ?_
  intro r h' H1 locs1 hq hP1' hS1 hz1 hk1
  refine kk r h' H1 locs1 hq hP1' (hP2.kept (fun k x hx => ?_)) hS1
  have hlt := (hP2 k x hx).lt
  obtain ⟨g1, g2⟩ := xws_inv hx
  refine hk1 _ hlt (fun z => ?_)
  rcases z with ⟨j, j1, j2⟩ | z
  · exact hdis j k j1 g1 (by rw [← j2, g2])
  · omega
theorem l_callC (F : lwF p s m meth c b L xs D tc aC aM) (S : lwS s D tc aC aM H locs h k) (hsz : lsA.size = 4) (hcs : cells ≤ room_1.cells ∧ slots ≤ room_1.slots) {mj : xM} {as : List xV} {idx : Nat} {r : Int} {PC : xH → Prop}
    (hL : lwL mj as.length idx) (hC : RX7 = mj.1.cls) (hfit : (xent0 (.inr (.inr 0) :: as)).length ≤ mj.2.2.1) (hrest : (rest.map fun v => v.category).sum ≤ 8) (hdg : decode code pc = .ok (.invokevirtual idx, 3))
    (hG : cI wdC 30 mj (.inr (.inr 0) :: as) h (fun n h' => n = r ∧ PC h'))
    (kk : ∀ (H1 : Heap) (locs1 : List Loc) (h' : xH), PC h' → lwS s D tc aC aM H1 locs1 h' k → W p l e room_1 s m #[Value.ref b] below meth c H1 locs1 cells slots Q (F0 m (pc + 3) lsA (.int (Int32.ofInt r) :: rest))) :
    W p l e room_1 s m #[Value.ref b] below meth c H locs cells slots Q (F0 m pc lsA ((as.map (xc aC)).reverse ++ .ref (aC 0) :: rest)) := by
  obtain ⟨hx, hb, hml, hlk, hr, hown, hts, hXs, hbl, hLL, hKK, hN, hX, hiC, hiM, hdis⟩ := F
  refine lw_call (wd := wdC) (wd2 := wdM) hx hb hml hown hts hKK hN hX.1 hiC hdis S.1 S.2.1 S.2.2 hsz hcs hL rfl rfl hC hfit hrest hdg hG (fun r' h' H1 locs1 hq hP1 hP2 hS => ?_)
  obtain ⟨n, rfl, rfl, hp⟩ := hq
  exact kk H1 locs1 h' hp ⟨hP1, hP2, hS⟩
theorem l_callM (F : lwF p s m meth c b L xs D tc aC aM) (S : lwS s D tc aC aM H locs h k) (hsz : lsA.size = 4) (hcs : cells ≤ room_1.cells ∧ slots ≤ room_1.slots) {mj : xM} {as : List xV} {idx : Nat} {r : Int} {PC : xH → Prop}
    (hL : lwL mj as.length idx) (hC : RX8 = mj.1.cls) (hfit : (xent0 (.inr (.inr 0) :: as)).length ≤ mj.2.2.1) (hrest : (rest.map fun v => v.category).sum ≤ 8) (hdg : decode code pc = .ok (.invokevirtual idx, 3))
    (hG : cI wdM 30 mj (.inr (.inr 0) :: as) k (fun n h' => n = r ∧ PC h'))
    (kk : ∀ (H1 : Heap) (locs1 : List Loc) (k' : xH), PC k' → lwS s D tc aC aM H1 locs1 h k' → W p l e room_1 s m #[Value.ref b] below meth c H1 locs1 cells slots Q (F0 m (pc + 3) lsA (.int (Int32.ofInt r) :: rest))) :
    W p l e room_1 s m #[Value.ref b] below meth c H locs cells slots Q (F0 m pc lsA ((as.map (xc aM)).reverse ++ .ref (aM 0) :: rest)) := by
  obtain ⟨hx, hb, hml, hlk, hr, hown, hts, hXs, hbl, hLL, hKK, hN, hX, hiC, hiM, hdis⟩ := F
  refine lw_call (wd := wdM) (wd2 := wdC) hx hb hml hown hts hKK hN hX.2 hiM (fun i j a1 a2 z => hdis j i a2 a1 z.symm) S.2.1 S.1 S.2.2 hsz hcs hL rfl rfl hC hfit hrest hdg hG (fun r' h' H1 locs1 hq hP1 hP2 hS => ?_)
  obtain ⟨n, rfl, rfl, hp⟩ := hq
  exact kk H1 locs1 h' hp ⟨hP2, hP1, hS⟩
theorem l_callCL (F : lwF p s m meth c b L xs D tc aC aM) (S : lwS s D tc aC aM H locs h k) (hsz : lsA.size = 4) (hcs : cells ≤ room_1.cells ∧ slots ≤ room_1.slots) {mj : xM} {as : List xV} {idx : Nat} {r : Int} {PC : xH → Prop}
    (hL : lwL mj as.length idx) (hC : RX7 = mj.1.cls) (hfit : (xent0 (.inr (.inr 0) :: as)).length ≤ mj.2.2.1) (hrest : (rest.map fun v => v.category).sum ≤ 8) (hdg : decode code pc = .ok (.invokevirtual idx, 3))
    (hG : cL wdC 30 mj (.inr (.inr 0) :: as) h (fun n h' => n = r ∧ PC h'))
    (kk : ∀ (H1 : Heap) (locs1 : List Loc) (h' : xH), PC h' → lwS s D tc aC aM H1 locs1 h' k → W p l e room_1 s m #[Value.ref b] below meth c H1 locs1 cells slots Q (F0 m (pc + 3) lsA (.long (Int64.ofInt r) :: rest))) :
    W p l e room_1 s m #[Value.ref b] below meth c H locs cells slots Q (F0 m pc lsA ((as.map (xc aC)).reverse ++ .ref (aC 0) :: rest)) := by
  obtain ⟨hx, hb, hml, hlk, hr, hown, hts, hXs, hbl, hLL, hKK, hN, hX, hiC, hiM, hdis⟩ := F
  refine lw_call (wd := wdC) (wd2 := wdM) hx hb hml hown hts hKK hN hX.1 hiC hdis S.1 S.2.1 S.2.2 hsz hcs hL rfl rfl hC hfit hrest hdg hG (fun r' h' H1 locs1 hq hP1 hP2 hS => ?_)
  obtain ⟨n, rfl, rfl, hp⟩ := hq
  exact kk H1 locs1 h' hp ⟨hP1, hP2, hS⟩
theorem l_callML (F : lwF p s m meth c b L xs D tc aC aM) (S : lwS s D tc aC aM H locs h k) (hsz : lsA.size = 4) (hcs : cells ≤ room_1.cells ∧ slots ≤ room_1.slots) {mj : xM} {as : List xV} {idx : Nat} {r : Int} {PC : xH → Prop}
    (hL : lwL mj as.length idx) (hC : RX8 = mj.1.cls) (hfit : (xent0 (.inr (.inr 0) :: as)).length ≤ mj.2.2.1) (hrest : (rest.map fun v => v.category).sum ≤ 8) (hdg : decode code pc = .ok (.invokevirtual idx, 3))
    (hG : cL wdM 30 mj (.inr (.inr 0) :: as) k (fun n h' => n = r ∧ PC h'))
    (kk : ∀ (H1 : Heap) (locs1 : List Loc) (k' : xH), PC k' → lwS s D tc aC aM H1 locs1 h k' → W p l e room_1 s m #[Value.ref b] below meth c H1 locs1 cells slots Q (F0 m (pc + 3) lsA (.long (Int64.ofInt r) :: rest))) :
    W p l e room_1 s m #[Value.ref b] below meth c H locs cells slots Q (F0 m pc lsA ((as.map (xc aM)).reverse ++ .ref (aM 0) :: rest)) := by
  obtain ⟨hx, hb, hml, hlk, hr, hown, hts, hXs, hbl, hLL, hKK, hN, hX, hiC, hiM, hdis⟩ := F
  refine lw_call (wd := wdM) (wd2 := wdC) hx hb hml hown hts hKK hN hX.2 hiM (fun i j a1 a2 z => hdis j i a2 a1 z.symm) S.2.1 S.1 S.2.2 hsz hcs hL rfl rfl hC hfit hrest hdg hG (fun r' h' H1 locs1 hq hP1 hP2 hS => ?_)
  obtain ⟨n, rfl, rfl, hp⟩ := hq
  exact kk H1 locs1 h' hp ⟨hP2, hP1, hS⟩
def lwLs (lsA : Array Slot) (b a1 a2 i : Nat) : Prop := lv_has lsA 4 [(0, .ref b), (1, .ref a1), (2, .ref a2), (3, .int (Int32.ofInt (i : Int)))]
theorem lw_ofInt (y : Int32) : Int32.ofInt y.toInt = y := Int32.ofInt_toInt y
theorem lw_inI (y : Int32) : inI y.toInt := by
  have h1 := y.toInt_lt
  have h2 := y.le_toInt
  unfold inI
  omega
theorem lw_inL (y : Int64) : inL y.toInt := by
  have h1 := y.toInt_lt
  have h2 := y.le_toInt
  unfold inL
  omega
theorem l_arg (F : lwF p s m meth c b L xs D tc aC aM) (S : lwS s D tc aC aM H locs h k) (hl : lwLs lsA b (aC 0) (aM 0) i) (hi : i + 5 ≤ L) {n : Nat} (hn : n < 5)
    (d0 : decode code pc = .ok (.aload_n 0, 1)) (d1 : decode code (pc + 1) = .ok (.iload_n 3, 1)) (d2 : decode code (pc + 1 + 1) = .ok (.iconst (n : Int), 1)) (d3 : decode code (pc + 1 + 1 + 1) = .ok (.iadd, 1)) (d4 : decode code (pc + 1 + 1 + 1 + 1) = .ok (.iaload, 1))
    (kk : W p l e room_1 s m #[Value.ref b] below meth c H locs cells slots Q (F0 m (pc + 5) lsA (.int (Int32.ofInt (xs (i + n)).toInt) :: rest))) :
    W p l e room_1 s m #[Value.ref b] below meth c H locs cells slots Q (F0 m pc lsA rest) := by
  obtain ⟨hx, hb, hml, hlk, hr, hown, hts, hXs, hbl, hLL, hKK, hN, hX, hiC, hiM, hdis⟩ := F
  refine lv_aload_n hx hb d0 rfl (lv_at hl 0 rfl) ?_
  refine lv_iload_n hx hb d1 rfl (lv_at hl 3 rfl) ?_
  refine lv_iconst hx hb d2 rfl ?_
  refine lv_iadd hx hb d3 ?_
  have e1 : Int32.ofInt (i : Int) + Int32.ofInt (n : Int) = Int32.ofInt ((i + n : Nat) : Int) := by
    rw [Int.natCast_add, Int32.ofInt_add]
  rw [e1]
  have e2 : (Int32.ofInt ((i + n : Nat) : Int)).toNatClampNeg = i + n := by
    rw [Int32.toNatClampNeg, i32_toInt (by unfold inI; omega)]
    omega
  refine va_sld hx hb hXs hbl (fun z => absurd hbl (Nat.not_lt.mpr z)) S.2.2 (i32_in (by omega) (by omega) (by omega)) d4 ?_
  rw [e2, ← lw_ofInt (xs (i + n))]
  exact kk
theorem l_cmpI (hx : p.tables.exec = Jvm.exec) (hb : c.code = code) {y : Int32} {off : Int} (hdg : decode code pc = .ok (.if_icmp .eq off, 3)) (ht : (pc : Int) + off = 1268) (kk : W p l e room_1 s m #[Value.ref b] below meth c H locs cells slots Q (F0 m 1268 lsA rest)) :
    W p l e room_1 s m #[Value.ref b] below meth c H locs cells slots Q (F0 m pc lsA (.int y :: .int y :: rest)) :=
  lv_icmp_eq (tgt := 1268) hx hb hdg ht (fun _ => kk) (fun z => absurd rfl z)
theorem l_cmpL (hx : p.tables.exec = Jvm.exec) (hb : c.code = code) {r : Int} (hr : inL r) {off : Int} (hd0 : decode code pc = .ok (.lcmp, 1)) (hdg : decode code (pc + 1) = .ok (.ifCond .eq off, 3)) (ht : ((pc + 1 : Nat) : Int) + off = 1268) (kk : W p l e room_1 s m #[Value.ref b] below meth c H locs cells slots Q (F0 m 1268 lsA rest)) :
    W p l e room_1 s m #[Value.ref b] below meth c H locs cells slots Q (F0 m pc lsA (.long (Int64.ofInt r) :: .long (Int64.ofInt r) :: rest)) := by
  refine W.lcmp hx hb hd0 ?_
  rw [i64_cmp hr hr]
  refine lv_if_eq (tgt := 1268) hx hb hdg ht (fun _ => kk) (fun z => absurd ?_ z)
  simp [xcmp]
end
