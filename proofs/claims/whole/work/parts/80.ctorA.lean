/-! The constructors: what they make is the world at its start. -/
section
variable {p : Program} {l : Launch} {e : Env} {R : Room} {s : State} {m : MethodId} {args : Array Value} {below : List Frame} {meth : Method} {c : Code} {H H0 : Heap} {locs : List Loc} {cells slots : Nat} {Q : State → Prop} {A : Nat → Prop} {D : va_G} {cl : List vw_C} {ws : va_W} {tys : List (ClassId × FieldType)} {cc : ByteArray} {pc : Nat} {ls : Array Slot} {rest : List Value}
theorem ct_newa (hexec : p.tables.exec = Jvm.exec) (hb : c.code = cc) {atype : ArrayType} (harr : (Cond.arrayClass (newarray.typeOf atype)).before args s = true) {ty : FieldType} (hty : newarray.typeOf atype = ty) (hK : va_K D cl tys s) {t0 : Nat} {cT : ClassId} (ht : tys[t0]? = some (cT, ty)) (hP : va_P D cl ws H) (hD : va_D A ws) (hS : va_S A H0 H locs) (hA : ∀ q, H0.size ≤ q → A q)
    {n : Int32} {N' : Nat} {a0 : vp_A} (ha : ∀ cA : ClassId, vp_cell cA a0 = arrV cA N' (fun _ => defaultValue ty)) (hn : ¬ n < 0) (hN : n.toNatClampNeg = N') (hbytes : N' * componentBytes ty ≤ 536870912) (hcells : cells + 1 ≤ R.cells) (hslots : slots + N' ≤ R.slots) (hdg : decode cc pc = .ok (.newarray atype, 2))
    (kk : ∀ (q : Nat) (H1 : Heap), va_P D cl (ws ++ [(q, .inl (cT, a0))]) H1 → va_D A (ws ++ [(q, .inl (cT, a0))]) → va_S A H0 H1 locs →
      W p l e R s m args below meth c H1 locs (cells + 1) (slots + N') Q (F0 m (pc + 2) ls (.ref q :: rest))) : W p l e R s m args below meth c H locs cells slots Q (F0 m pc ls (.int n :: rest)) := by
  refine va_newa hexec hb harr hty hK hP hD hS hA ha hn hN hbytes hcells hslots hdg (fun q cA H1 hK1 hP1 hD1 hS1 => ?_)
  have h1 := (hK1.2 tys.length (cA, ty) (by simp)).2
  have h2 := (hK.2 t0 _ ht).2
  have e : cA = cT := by
    subst hty
    cases atype <;> exact Option.some.inj (h1.symm.trans h2)
  subst e
  exact kk q H1 hP1 hD1 hS1
end
/-- a constructor's start: its object alone -/
def ctP (D : va_G) (tc : Nat → ClassId) (h0 : Nat) (e : va_E) (sz : Nat) : Array Value → State → Prop := va_Pc [.ref h0] (fun U => U.heap.size = sz ∧ va_P D vwCl [(h0, e)] U.heap ∧ va_K D vwCl (xT tc) U)
theorem ct_blind {D : va_G} {tc : Nat → ClassId} {h0 : Nat} {e : va_E} {sz : Nat} : FrameBlind (ctP D tc h0 e sz) := by
  intro a U g mk q
  obtain ⟨q0, q1, qP, qK⟩ := q
  exact ⟨q0, q1, qP, va_K.moved (u := U) (U := U.calling g mk a) (Vm.Alike.refl U.vm) qK⟩
theorem ct_one {h0 : Nat} {e : va_E} {sz : Nat} : va_D (va_A [(h0, e)] sz) [(h0, e)] := by
  refine ⟨fun i j p q hi hj _ => ?_, fun k q hk => va_A.in hk⟩
  have h1 : i < 1 := (List.getElem?_eq_some_iff.mp hi).1
  have h2 : j < 1 := (List.getElem?_eq_some_iff.mp hj).1
  omega
def mI3 : xM := (yX3_init, prog_5_method_1_code, 1, none)
def wI3 (tc : Nat → ClassId) (h0 : Nat) (u : Nat → Nat) : va_W := [(h0, .inr (3, [.int 6, .int 0, .int 0, .ref (u 1), .ref (u 2), .ref (u 3), .int 0, .ref (u 4)])), ((u 1), .inl (tc 0, 30, .inl fun _ => 0)), ((u 2), .inl (tc 0, 30, .inl fun _ => 0)), ((u 3), .inl (tc 0, 30, .inl fun _ => 0)), ((u 4), .inl (tc 0, 10, .inl fun _ => 0))]
set_option maxHeartbeats 4000000 in
set_option maxRecDepth 20000 in
theorem met_i3 (l : Launch) (D : va_G) (tc : Nat → ClassId) (h0 sz : Nat) : Met l yX3_init (xwm mI3) { frames := 1, cells := 4, slots := 100, locals := 20 } (ctP D tc h0 (.inr (3, [.int 0, .int 0, .int 0, .null, .null, .null, .int 0, .null])) sz) (va_Qv (fun _ : Nat → Nat => True) (fun u t => va_P D vwCl (wI3 tc h0 u) t.heap ∧ va_D (va_A [(h0, .inr (3, [.int 0, .int 0, .int 0, .null, .null, .null, .int 0, .null]))] sz) (wI3 tc h0 u)) (va_A [(h0, .inr (3, [.int 0, .int 0, .int 0, .null, .null, .null, .int 0, .null]))] sz)) 4 100 (va_A [(h0, .inr (3, [.int 0, .int 0, .int 0, .null, .null, .null, .int 0, .null]))] sz) := by
  refine Met.ofW (cc := cX3_init) (maxL := 1) (ret := none) (by decide) rfl ?_
  intro p e s m args below meth c s₁ B hml hv
  obtain ⟨rfl, hsz, hP, hK⟩ := hv
  have hx := B.exec
  have hb := B.bytes
  have hr := B.returns
  have hts := atoms_spec (ws := xwm mI3) B.pre
  have hown : s.vm.findClass RX3 = some m.cls := findClass_of_methodNamed B.named
  have hin : meth.name = "<init>" := (name_of_methodNamed B.named B.method).1
  subst hsz
  have hD : va_D (va_A [(h0, .inr (3, [.int 0, .int 0, .int 0, .null, .null, .null, .int 0, .null]))] s.heap.size) [(h0, .inr (3, [.int 0, .int 0, .int 0, .null, .null, .null, .int 0, .null]))] := ct_one
  generalize hAe : va_A [(h0, .inr (3, [.int 0, .int 0, .int 0, .null, .null, .null, .int 0, .null]))] s.heap.size = A at hD ⊢
  have hA : ∀ q : Nat, s.heap.size ≤ q → A q := fun q h => by rw [← hAe]; exact Or.inr h
  have hS : va_S A s.heap s.heap [] := va_S.rf
  have hl := lv_entry ([.ref h0]) (n := 1) (Nat.le_of_ble_eq_true rfl)
  rw [lg_entry_eq]
  generalize (lg_sl ([.ref h0]) ++ List.replicate (1 - (lg_sl ([.ref h0])).length) Slot.unset).toArray = ls at hl ⊢
  have hl : lv_has ls 1 [(0, .ref h0)] := hl
  have e0 := lv_at hl 0 rfl
  refine lv_aload_n hx hb (show decode cX3_init 0 = .ok (.aload_n 0, 1) by decide +kernel) rfl e0 ?_
  refine W.objInit hx hb hown (hts _ (List.mem_cons_of_mem _ (tblG_m1 31 rfl rfl))) (hts _ (List.mem_cons_of_mem _ (tblG_m1 24 rfl rfl))) (hts _ (List.mem_cons_of_mem _ (tblG_m1 25 rfl rfl))) rfl (by rw [hml]; exact hl.1) rfl (show decode cX3_init 1 = .ok (.invokespecial 3, 3) by decide +kernel) (Nat.le_of_ble_eq_true rfl) (Nat.le_of_ble_eq_true rfl) ?_
  refine W.eq (g2 := F0 m 4 ls []) rfl ?_
  refine lv_aload_n hx hb (show decode cX3_init 4 = .ok (.aload_n 0, 1) by decide +kernel) rfl e0 ?_
  refine lv_bipush hx hb (v := 6) (show decode cX3_init 5 = .ok (.bipush 6, 2) by decide +kernel) (by decide) ?_
  refine va_put (D := D) (ref := RX3) (ci := 3) (v := .int 6) (ty := .int) (C := RX3) (T := TX3) (N := 8) hx hb hts (fun w hw => List.mem_cons_of_mem _ (iG3 w hw)) tyX3 tyX3_ok nmX3 hown hK hP hD hS 0 rfl rfl 0 (by decide) (hts _ (List.mem_cons_of_mem _ (tblG_m1 32 rfl rfl))) (fun _ h9 => h9) rfl (by decide +kernel) rfl rfl (Nat.le_of_ble_eq_true rfl) (show decode cX3_init 7 = .ok (.putfield 9, 3) by decide +kernel) (fun H locs hP hD hS => ?_)
  have hP : va_P D vwCl [(h0, .inr (3, [.int 6, .int 0, .int 0, .null, .null, .null, .int 0, .null]))] H := hP
  have hD : va_D A [(h0, .inr (3, [.int 6, .int 0, .int 0, .null, .null, .null, .int 0, .null]))] := hD
  refine lv_aload_n hx hb (show decode cX3_init 10 = .ok (.aload_n 0, 1) by decide +kernel) rfl e0 ?_
  refine lv_iconst hx hb (n := 0) (v := 0) (show decode cX3_init 11 = .ok (.iconst 0, 1) by decide +kernel) (by decide) ?_
  refine va_put (D := D) (ref := RX3) (ci := 3) (v := .int 0) (ty := .int) (C := RX3) (T := TX3) (N := 8) hx hb hts (fun w hw => List.mem_cons_of_mem _ (iG3 w hw)) tyX3 tyX3_ok nmX3 hown hK hP hD hS 0 rfl rfl 1 (by decide) (hts _ (List.mem_cons_of_mem _ (tblG_m1 34 rfl rfl))) (fun _ h9 => h9) rfl (by decide +kernel) rfl rfl (Nat.le_of_ble_eq_true rfl) (show decode cX3_init 12 = .ok (.putfield 15, 3) by decide +kernel) (fun H locs hP hD hS => ?_)
  have hP : va_P D vwCl [(h0, .inr (3, [.int 6, .int 0, .int 0, .null, .null, .null, .int 0, .null]))] H := hP
  have hD : va_D A [(h0, .inr (3, [.int 6, .int 0, .int 0, .null, .null, .null, .int 0, .null]))] := hD
  refine lv_aload_n hx hb (show decode cX3_init 15 = .ok (.aload_n 0, 1) by decide +kernel) rfl e0 ?_
  refine lv_iconst hx hb (n := 0) (v := 0) (show decode cX3_init 16 = .ok (.iconst 0, 1) by decide +kernel) (by decide) ?_
  refine va_put (D := D) (ref := RX3) (ci := 3) (v := .int 0) (ty := .int) (C := RX3) (T := TX3) (N := 8) hx hb hts (fun w hw => List.mem_cons_of_mem _ (iG3 w hw)) tyX3 tyX3_ok nmX3 hown hK hP hD hS 0 rfl rfl 2 (by decide) (hts _ (List.mem_cons_of_mem _ (tblG_m1 36 rfl rfl))) (fun _ h9 => h9) rfl (by decide +kernel) rfl rfl (Nat.le_of_ble_eq_true rfl) (show decode cX3_init 17 = .ok (.putfield 18, 3) by decide +kernel) (fun H locs hP hD hS => ?_)
  have hP : va_P D vwCl [(h0, .inr (3, [.int 6, .int 0, .int 0, .null, .null, .null, .int 0, .null]))] H := hP
  have hD : va_D A [(h0, .inr (3, [.int 6, .int 0, .int 0, .null, .null, .null, .int 0, .null]))] := hD
  refine lv_aload_n hx hb (show decode cX3_init 20 = .ok (.aload_n 0, 1) by decide +kernel) rfl e0 ?_
  refine lv_bipush hx hb (v := 30) (show decode cX3_init 21 = .ok (.bipush 30, 2) by decide +kernel) (by decide) ?_
  refine ct_newa (ty := .int) (N' := 30) (t0 := 0) (a0 := (30, .inl fun _ => 0)) hx hb (hts _ (List.mem_cons_of_mem _ (tblG_m1 71 rfl rfl))) rfl hK rfl hP hD hS hA (fun _ => rfl) (by decide) (by decide) (by decide) (show 0 + 1 ≤ 4 by decide) (show 0 + 30 ≤ 100 by decide) (show decode cX3_init 23 = .ok (.newarray .int, 2) by decide +kernel) (fun q23 H hP hD hS => ?_)
  have hP : va_P D vwCl [(h0, .inr (3, [.int 6, .int 0, .int 0, .null, .null, .null, .int 0, .null])), (q23, .inl (tc 0, 30, .inl fun _ => 0))] H := hP
  have hD : va_D A [(h0, .inr (3, [.int 6, .int 0, .int 0, .null, .null, .null, .int 0, .null])), (q23, .inl (tc 0, 30, .inl fun _ => 0))] := hD
  refine W.widen (k := 1) (n := 30) (by decide) (by decide) ?_
  refine va_putF (D := D) (ref := RX3) (ci := 3) (v := .ref q23) (ty := .array .int) (C := RX3) (T := TX3) (N := 8) hx hb hts (fun w hw => List.mem_cons_of_mem _ (iG3 w hw)) tyX3 tyX3_ok nmX3 hown hK hP hD hS 0 rfl rfl 3 (by decide) (hts _ (List.mem_cons_of_mem _ (tblG_m1 40 rfl rfl))) (fun _ h9 => h9) rfl hin rfl (by decide +kernel) rfl rfl (Nat.le_of_ble_eq_true rfl) (show decode cX3_init 25 = .ok (.putfield 21, 3) by decide +kernel) (fun H locs hP hD hS => ?_)
  have hP : va_P D vwCl [(h0, .inr (3, [.int 6, .int 0, .int 0, .ref q23, .null, .null, .int 0, .null])), (q23, .inl (tc 0, 30, .inl fun _ => 0))] H := hP
  have hD : va_D A [(h0, .inr (3, [.int 6, .int 0, .int 0, .ref q23, .null, .null, .int 0, .null])), (q23, .inl (tc 0, 30, .inl fun _ => 0))] := hD
  refine lv_aload_n hx hb (show decode cX3_init 28 = .ok (.aload_n 0, 1) by decide +kernel) rfl e0 ?_
  refine lv_bipush hx hb (v := 30) (show decode cX3_init 29 = .ok (.bipush 30, 2) by decide +kernel) (by decide) ?_
  refine ct_newa (ty := .int) (N' := 30) (t0 := 0) (a0 := (30, .inl fun _ => 0)) hx hb (hts _ (List.mem_cons_of_mem _ (tblG_m1 71 rfl rfl))) rfl hK rfl hP hD hS hA (fun _ => rfl) (by decide) (by decide) (by decide) (show 1 + 1 ≤ 4 by decide) (show 30 + 30 ≤ 100 by decide) (show decode cX3_init 31 = .ok (.newarray .int, 2) by decide +kernel) (fun q31 H hP hD hS => ?_)
  have hP : va_P D vwCl [(h0, .inr (3, [.int 6, .int 0, .int 0, .ref q23, .null, .null, .int 0, .null])), (q23, .inl (tc 0, 30, .inl fun _ => 0)), (q31, .inl (tc 0, 30, .inl fun _ => 0))] H := hP
  have hD : va_D A [(h0, .inr (3, [.int 6, .int 0, .int 0, .ref q23, .null, .null, .int 0, .null])), (q23, .inl (tc 0, 30, .inl fun _ => 0)), (q31, .inl (tc 0, 30, .inl fun _ => 0))] := hD
  refine W.widen (k := 2) (n := 60) (by decide) (by decide) ?_
  refine va_putF (D := D) (ref := RX3) (ci := 3) (v := .ref q31) (ty := .array .int) (C := RX3) (T := TX3) (N := 8) hx hb hts (fun w hw => List.mem_cons_of_mem _ (iG3 w hw)) tyX3 tyX3_ok nmX3 hown hK hP hD hS 0 rfl rfl 4 (by decide) (hts _ (List.mem_cons_of_mem _ (tblG_m1 43 rfl rfl))) (fun _ h9 => h9) rfl hin rfl (by decide +kernel) rfl rfl (Nat.le_of_ble_eq_true rfl) (show decode cX3_init 33 = .ok (.putfield 25, 3) by decide +kernel) (fun H locs hP hD hS => ?_)
  have hP : va_P D vwCl [(h0, .inr (3, [.int 6, .int 0, .int 0, .ref q23, .ref q31, .null, .int 0, .null])), (q23, .inl (tc 0, 30, .inl fun _ => 0)), (q31, .inl (tc 0, 30, .inl fun _ => 0))] H := hP
  have hD : va_D A [(h0, .inr (3, [.int 6, .int 0, .int 0, .ref q23, .ref q31, .null, .int 0, .null])), (q23, .inl (tc 0, 30, .inl fun _ => 0)), (q31, .inl (tc 0, 30, .inl fun _ => 0))] := hD
  refine lv_aload_n hx hb (show decode cX3_init 36 = .ok (.aload_n 0, 1) by decide +kernel) rfl e0 ?_
  refine lv_bipush hx hb (v := 30) (show decode cX3_init 37 = .ok (.bipush 30, 2) by decide +kernel) (by decide) ?_
  refine ct_newa (ty := .int) (N' := 30) (t0 := 0) (a0 := (30, .inl fun _ => 0)) hx hb (hts _ (List.mem_cons_of_mem _ (tblG_m1 71 rfl rfl))) rfl hK rfl hP hD hS hA (fun _ => rfl) (by decide) (by decide) (by decide) (show 2 + 1 ≤ 4 by decide) (show 60 + 30 ≤ 100 by decide) (show decode cX3_init 39 = .ok (.newarray .int, 2) by decide +kernel) (fun q39 H hP hD hS => ?_)
  have hP : va_P D vwCl [(h0, .inr (3, [.int 6, .int 0, .int 0, .ref q23, .ref q31, .null, .int 0, .null])), (q23, .inl (tc 0, 30, .inl fun _ => 0)), (q31, .inl (tc 0, 30, .inl fun _ => 0)), (q39, .inl (tc 0, 30, .inl fun _ => 0))] H := hP
  have hD : va_D A [(h0, .inr (3, [.int 6, .int 0, .int 0, .ref q23, .ref q31, .null, .int 0, .null])), (q23, .inl (tc 0, 30, .inl fun _ => 0)), (q31, .inl (tc 0, 30, .inl fun _ => 0)), (q39, .inl (tc 0, 30, .inl fun _ => 0))] := hD
  refine W.widen (k := 3) (n := 90) (by decide) (by decide) ?_
  refine va_putF (D := D) (ref := RX3) (ci := 3) (v := .ref q39) (ty := .array .int) (C := RX3) (T := TX3) (N := 8) hx hb hts (fun w hw => List.mem_cons_of_mem _ (iG3 w hw)) tyX3 tyX3_ok nmX3 hown hK hP hD hS 0 rfl rfl 5 (by decide) (hts _ (List.mem_cons_of_mem _ (tblG_m1 47 rfl rfl))) (fun _ h9 => h9) rfl hin rfl (by decide +kernel) rfl rfl (Nat.le_of_ble_eq_true rfl) (show decode cX3_init 41 = .ok (.putfield 28, 3) by decide +kernel) (fun H locs hP hD hS => ?_)
  have hP : va_P D vwCl [(h0, .inr (3, [.int 6, .int 0, .int 0, .ref q23, .ref q31, .ref q39, .int 0, .null])), (q23, .inl (tc 0, 30, .inl fun _ => 0)), (q31, .inl (tc 0, 30, .inl fun _ => 0)), (q39, .inl (tc 0, 30, .inl fun _ => 0))] H := hP
  have hD : va_D A [(h0, .inr (3, [.int 6, .int 0, .int 0, .ref q23, .ref q31, .ref q39, .int 0, .null])), (q23, .inl (tc 0, 30, .inl fun _ => 0)), (q31, .inl (tc 0, 30, .inl fun _ => 0)), (q39, .inl (tc 0, 30, .inl fun _ => 0))] := hD
  refine lv_aload_n hx hb (show decode cX3_init 44 = .ok (.aload_n 0, 1) by decide +kernel) rfl e0 ?_
  refine lv_iconst hx hb (n := 0) (v := 0) (show decode cX3_init 45 = .ok (.iconst 0, 1) by decide +kernel) (by decide) ?_
  refine va_put (D := D) (ref := RX3) (ci := 3) (v := .int 0) (ty := .int) (C := RX3) (T := TX3) (N := 8) hx hb hts (fun w hw => List.mem_cons_of_mem _ (iG3 w hw)) tyX3 tyX3_ok nmX3 hown hK hP hD hS 0 rfl rfl 6 (by decide) (hts _ (List.mem_cons_of_mem _ (tblG_m1 49 rfl rfl))) (fun _ h9 => h9) rfl (by decide +kernel) rfl rfl (Nat.le_of_ble_eq_true rfl) (show decode cX3_init 46 = .ok (.putfield 31, 3) by decide +kernel) (fun H locs hP hD hS => ?_)
  have hP : va_P D vwCl [(h0, .inr (3, [.int 6, .int 0, .int 0, .ref q23, .ref q31, .ref q39, .int 0, .null])), (q23, .inl (tc 0, 30, .inl fun _ => 0)), (q31, .inl (tc 0, 30, .inl fun _ => 0)), (q39, .inl (tc 0, 30, .inl fun _ => 0))] H := hP
  have hD : va_D A [(h0, .inr (3, [.int 6, .int 0, .int 0, .ref q23, .ref q31, .ref q39, .int 0, .null])), (q23, .inl (tc 0, 30, .inl fun _ => 0)), (q31, .inl (tc 0, 30, .inl fun _ => 0)), (q39, .inl (tc 0, 30, .inl fun _ => 0))] := hD
  refine lv_aload_n hx hb (show decode cX3_init 49 = .ok (.aload_n 0, 1) by decide +kernel) rfl e0 ?_
  refine lv_bipush hx hb (v := 10) (show decode cX3_init 50 = .ok (.bipush 10, 2) by decide +kernel) (by decide) ?_
  refine ct_newa (ty := .int) (N' := 10) (t0 := 0) (a0 := (10, .inl fun _ => 0)) hx hb (hts _ (List.mem_cons_of_mem _ (tblG_m1 71 rfl rfl))) rfl hK rfl hP hD hS hA (fun _ => rfl) (by decide) (by decide) (by decide) (show 3 + 1 ≤ 4 by decide) (show 90 + 10 ≤ 100 by decide) (show decode cX3_init 52 = .ok (.newarray .int, 2) by decide +kernel) (fun q52 H hP hD hS => ?_)
  have hP : va_P D vwCl [(h0, .inr (3, [.int 6, .int 0, .int 0, .ref q23, .ref q31, .ref q39, .int 0, .null])), (q23, .inl (tc 0, 30, .inl fun _ => 0)), (q31, .inl (tc 0, 30, .inl fun _ => 0)), (q39, .inl (tc 0, 30, .inl fun _ => 0)), (q52, .inl (tc 0, 10, .inl fun _ => 0))] H := hP
  have hD : va_D A [(h0, .inr (3, [.int 6, .int 0, .int 0, .ref q23, .ref q31, .ref q39, .int 0, .null])), (q23, .inl (tc 0, 30, .inl fun _ => 0)), (q31, .inl (tc 0, 30, .inl fun _ => 0)), (q39, .inl (tc 0, 30, .inl fun _ => 0)), (q52, .inl (tc 0, 10, .inl fun _ => 0))] := hD
  refine W.widen (k := 4) (n := 100) (by decide) (by decide) ?_
  refine va_putF (D := D) (ref := RX3) (ci := 3) (v := .ref q52) (ty := .array .int) (C := RX3) (T := TX3) (N := 8) hx hb hts (fun w hw => List.mem_cons_of_mem _ (iG3 w hw)) tyX3 tyX3_ok nmX3 hown hK hP hD hS 0 rfl rfl 7 (by decide) (hts _ (List.mem_cons_of_mem _ (tblG_m1 52 rfl rfl))) (fun _ h9 => h9) rfl hin rfl (by decide +kernel) rfl rfl (Nat.le_of_ble_eq_true rfl) (show decode cX3_init 54 = .ok (.putfield 34, 3) by decide +kernel) (fun H locs hP hD hS => ?_)
  have hP : va_P D vwCl [(h0, .inr (3, [.int 6, .int 0, .int 0, .ref q23, .ref q31, .ref q39, .int 0, .ref q52])), (q23, .inl (tc 0, 30, .inl fun _ => 0)), (q31, .inl (tc 0, 30, .inl fun _ => 0)), (q39, .inl (tc 0, 30, .inl fun _ => 0)), (q52, .inl (tc 0, 10, .inl fun _ => 0))] H := hP
  have hD : va_D A [(h0, .inr (3, [.int 6, .int 0, .int 0, .ref q23, .ref q31, .ref q39, .int 0, .ref q52])), (q23, .inl (tc 0, 30, .inl fun _ => 0)), (q31, .inl (tc 0, 30, .inl fun _ => 0)), (q39, .inl (tc 0, 30, .inl fun _ => 0)), (q52, .inl (tc 0, 10, .inl fun _ => 0))] := hD
  exact W.vret hx hb hr (fun t ht hW => ⟨⟨fun k => [0, q23, q31, q39, q52].getD k 0, rfl, trivial, by rw [ht]; exact hP, hD⟩, hS.F ht⟩) hS.2.2 (show decode cX3_init 57 = .ok (.return_, 1) by decide +kernel)
def mI0 : xM := (yX0_init, prog_2_method_1_code, 1, none)
def wI0 (tc : Nat → ClassId) (h0 : Nat) (u : Nat → Nat) : va_W := [(h0, .inr (0, [.ref (u 1), .ref (u 2), .long 0, .int 0, .ref (u 3), .ref (u 4), .int 0])), ((u 1), .inl (tc 0, 24, .inl fun _ => 0)), ((u 2), .inl (tc 0, 24, .inl fun _ => 0)), ((u 3), .inl (tc 0, 30, .inl fun _ => 0)), ((u 4), .inl (tc 0, 30, .inl fun _ => 0))]
set_option maxHeartbeats 4000000 in
set_option maxRecDepth 20000 in
theorem met_i0 (l : Launch) (D : va_G) (tc : Nat → ClassId) (h0 sz : Nat) : Met l yX0_init (xwm mI0) { frames := 1, cells := 4, slots := 108, locals := 20 } (ctP D tc h0 (.inr (0, [.null, .null, .long 0, .int 0, .null, .null, .int 0])) sz) (va_Qv (fun _ : Nat → Nat => True) (fun u t => va_P D vwCl (wI0 tc h0 u) t.heap ∧ va_D (va_A [(h0, .inr (0, [.null, .null, .long 0, .int 0, .null, .null, .int 0]))] sz) (wI0 tc h0 u)) (va_A [(h0, .inr (0, [.null, .null, .long 0, .int 0, .null, .null, .int 0]))] sz)) 4 108 (va_A [(h0, .inr (0, [.null, .null, .long 0, .int 0, .null, .null, .int 0]))] sz) := by
  refine Met.ofW (cc := cX0_init) (maxL := 1) (ret := none) (by decide) rfl ?_
  intro p e s m args below meth c s₁ B hml hv
  obtain ⟨rfl, hsz, hP, hK⟩ := hv
  have hx := B.exec
  have hb := B.bytes
  have hr := B.returns
  have hts := atoms_spec (ws := xwm mI0) B.pre
  have hown : s.vm.findClass RX0 = some m.cls := findClass_of_methodNamed B.named
  have hin : meth.name = "<init>" := (name_of_methodNamed B.named B.method).1
  subst hsz
  have hD : va_D (va_A [(h0, .inr (0, [.null, .null, .long 0, .int 0, .null, .null, .int 0]))] s.heap.size) [(h0, .inr (0, [.null, .null, .long 0, .int 0, .null, .null, .int 0]))] := ct_one
  generalize hAe : va_A [(h0, .inr (0, [.null, .null, .long 0, .int 0, .null, .null, .int 0]))] s.heap.size = A at hD ⊢
  have hA : ∀ q : Nat, s.heap.size ≤ q → A q := fun q h => by rw [← hAe]; exact Or.inr h
  have hS : va_S A s.heap s.heap [] := va_S.rf
  have hl := lv_entry ([.ref h0]) (n := 1) (Nat.le_of_ble_eq_true rfl)
  rw [lg_entry_eq]
  generalize (lg_sl ([.ref h0]) ++ List.replicate (1 - (lg_sl ([.ref h0])).length) Slot.unset).toArray = ls at hl ⊢
  have hl : lv_has ls 1 [(0, .ref h0)] := hl
  have e0 := lv_at hl 0 rfl
  refine lv_aload_n hx hb (show decode cX0_init 0 = .ok (.aload_n 0, 1) by decide +kernel) rfl e0 ?_
  refine W.objInit hx hb hown (hts _ (List.mem_cons_of_mem _ (tblG_m1 77 rfl rfl))) (hts _ (List.mem_cons_of_mem _ (tblG_m1 24 rfl rfl))) (hts _ (List.mem_cons_of_mem _ (tblG_m1 25 rfl rfl))) rfl (by rw [hml]; exact hl.1) rfl (show decode cX0_init 1 = .ok (.invokespecial 3, 3) by decide +kernel) (Nat.le_of_ble_eq_true rfl) (Nat.le_of_ble_eq_true rfl) ?_
  refine W.eq (g2 := F0 m 4 ls []) rfl ?_
  refine lv_aload_n hx hb (show decode cX0_init 4 = .ok (.aload_n 0, 1) by decide +kernel) rfl e0 ?_
  refine lv_bipush hx hb (v := 24) (show decode cX0_init 5 = .ok (.bipush 24, 2) by decide +kernel) (by decide) ?_
  refine ct_newa (ty := .int) (N' := 24) (t0 := 0) (a0 := (24, .inl fun _ => 0)) hx hb (hts _ (List.mem_cons_of_mem _ (tblG_m1 71 rfl rfl))) rfl hK rfl hP hD hS hA (fun _ => rfl) (by decide) (by decide) (by decide) (show 0 + 1 ≤ 4 by decide) (show 0 + 24 ≤ 108 by decide) (show decode cX0_init 7 = .ok (.newarray .int, 2) by decide +kernel) (fun q7 H hP hD hS => ?_)
  have hP : va_P D vwCl [(h0, .inr (0, [.null, .null, .long 0, .int 0, .null, .null, .int 0])), (q7, .inl (tc 0, 24, .inl fun _ => 0))] H := hP
  have hD : va_D A [(h0, .inr (0, [.null, .null, .long 0, .int 0, .null, .null, .int 0])), (q7, .inl (tc 0, 24, .inl fun _ => 0))] := hD
  refine W.widen (k := 1) (n := 24) (by decide) (by decide) ?_
  refine va_putF (D := D) (ref := RX0) (ci := 0) (v := .ref q7) (ty := .array .int) (C := RX0) (T := TX0) (N := 7) hx hb hts (fun w hw => List.mem_cons_of_mem _ (iG0 w hw)) tyX0 tyX0_ok nmX0 hown hK hP hD hS 0 rfl rfl 0 (by decide) (hts _ (List.mem_cons_of_mem _ (tblG_m1 78 rfl rfl))) (fun _ h9 => h9) rfl hin rfl (by decide +kernel) rfl rfl (Nat.le_of_ble_eq_true rfl) (show decode cX0_init 9 = .ok (.putfield 9, 3) by decide +kernel) (fun H locs hP hD hS => ?_)
  have hP : va_P D vwCl [(h0, .inr (0, [.ref q7, .null, .long 0, .int 0, .null, .null, .int 0])), (q7, .inl (tc 0, 24, .inl fun _ => 0))] H := hP
  have hD : va_D A [(h0, .inr (0, [.ref q7, .null, .long 0, .int 0, .null, .null, .int 0])), (q7, .inl (tc 0, 24, .inl fun _ => 0))] := hD
  refine lv_aload_n hx hb (show decode cX0_init 12 = .ok (.aload_n 0, 1) by decide +kernel) rfl e0 ?_
  refine lv_bipush hx hb (v := 24) (show decode cX0_init 13 = .ok (.bipush 24, 2) by decide +kernel) (by decide) ?_
  refine ct_newa (ty := .int) (N' := 24) (t0 := 0) (a0 := (24, .inl fun _ => 0)) hx hb (hts _ (List.mem_cons_of_mem _ (tblG_m1 71 rfl rfl))) rfl hK rfl hP hD hS hA (fun _ => rfl) (by decide) (by decide) (by decide) (show 1 + 1 ≤ 4 by decide) (show 24 + 24 ≤ 108 by decide) (show decode cX0_init 15 = .ok (.newarray .int, 2) by decide +kernel) (fun q15 H hP hD hS => ?_)
  have hP : va_P D vwCl [(h0, .inr (0, [.ref q7, .null, .long 0, .int 0, .null, .null, .int 0])), (q7, .inl (tc 0, 24, .inl fun _ => 0)), (q15, .inl (tc 0, 24, .inl fun _ => 0))] H := hP
  have hD : va_D A [(h0, .inr (0, [.ref q7, .null, .long 0, .int 0, .null, .null, .int 0])), (q7, .inl (tc 0, 24, .inl fun _ => 0)), (q15, .inl (tc 0, 24, .inl fun _ => 0))] := hD
  refine W.widen (k := 2) (n := 48) (by decide) (by decide) ?_
  refine va_putF (D := D) (ref := RX0) (ci := 0) (v := .ref q15) (ty := .array .int) (C := RX0) (T := TX0) (N := 7) hx hb hts (fun w hw => List.mem_cons_of_mem _ (iG0 w hw)) tyX0 tyX0_ok nmX0 hown hK hP hD hS 0 rfl rfl 1 (by decide) (hts _ (List.mem_cons_of_mem _ (tblG_m1 80 rfl rfl))) (fun _ h9 => h9) rfl hin rfl (by decide +kernel) rfl rfl (Nat.le_of_ble_eq_true rfl) (show decode cX0_init 17 = .ok (.putfield 15, 3) by decide +kernel) (fun H locs hP hD hS => ?_)
  have hP : va_P D vwCl [(h0, .inr (0, [.ref q7, .ref q15, .long 0, .int 0, .null, .null, .int 0])), (q7, .inl (tc 0, 24, .inl fun _ => 0)), (q15, .inl (tc 0, 24, .inl fun _ => 0))] H := hP
  have hD : va_D A [(h0, .inr (0, [.ref q7, .ref q15, .long 0, .int 0, .null, .null, .int 0])), (q7, .inl (tc 0, 24, .inl fun _ => 0)), (q15, .inl (tc 0, 24, .inl fun _ => 0))] := hD
  refine lv_aload_n hx hb (show decode cX0_init 20 = .ok (.aload_n 0, 1) by decide +kernel) rfl e0 ?_
  refine lv_lconst hx hb (n := 0) (v := 0) (show decode cX0_init 21 = .ok (.lconst 0, 1) by decide +kernel) (by decide) ?_
  refine va_put (D := D) (ref := RX0) (ci := 0) (v := .long 0) (ty := .long) (C := RX0) (T := TX0) (N := 7) hx hb hts (fun w hw => List.mem_cons_of_mem _ (iG0 w hw)) tyX0 tyX0_ok nmX0 hown hK hP hD hS 0 rfl rfl 2 (by decide) (hts _ (List.mem_cons_of_mem _ (tblG_m1 82 rfl rfl))) (fun _ h9 => h9) rfl (by decide +kernel) rfl rfl (Nat.le_of_ble_eq_true rfl) (show decode cX0_init 22 = .ok (.putfield 18, 3) by decide +kernel) (fun H locs hP hD hS => ?_)
  have hP : va_P D vwCl [(h0, .inr (0, [.ref q7, .ref q15, .long 0, .int 0, .null, .null, .int 0])), (q7, .inl (tc 0, 24, .inl fun _ => 0)), (q15, .inl (tc 0, 24, .inl fun _ => 0))] H := hP
  have hD : va_D A [(h0, .inr (0, [.ref q7, .ref q15, .long 0, .int 0, .null, .null, .int 0])), (q7, .inl (tc 0, 24, .inl fun _ => 0)), (q15, .inl (tc 0, 24, .inl fun _ => 0))] := hD
  refine lv_aload_n hx hb (show decode cX0_init 25 = .ok (.aload_n 0, 1) by decide +kernel) rfl e0 ?_
  refine lv_iconst hx hb (n := 0) (v := 0) (show decode cX0_init 26 = .ok (.iconst 0, 1) by decide +kernel) (by decide) ?_
  refine va_put (D := D) (ref := RX0) (ci := 0) (v := .int 0) (ty := .int) (C := RX0) (T := TX0) (N := 7) hx hb hts (fun w hw => List.mem_cons_of_mem _ (iG0 w hw)) tyX0 tyX0_ok nmX0 hown hK hP hD hS 0 rfl rfl 3 (by decide) (hts _ (List.mem_cons_of_mem _ (tblG_m1 84 rfl rfl))) (fun _ h9 => h9) rfl (by decide +kernel) rfl rfl (Nat.le_of_ble_eq_true rfl) (show decode cX0_init 27 = .ok (.putfield 22, 3) by decide +kernel) (fun H locs hP hD hS => ?_)
  have hP : va_P D vwCl [(h0, .inr (0, [.ref q7, .ref q15, .long 0, .int 0, .null, .null, .int 0])), (q7, .inl (tc 0, 24, .inl fun _ => 0)), (q15, .inl (tc 0, 24, .inl fun _ => 0))] H := hP
  have hD : va_D A [(h0, .inr (0, [.ref q7, .ref q15, .long 0, .int 0, .null, .null, .int 0])), (q7, .inl (tc 0, 24, .inl fun _ => 0)), (q15, .inl (tc 0, 24, .inl fun _ => 0))] := hD
  refine lv_aload_n hx hb (show decode cX0_init 30 = .ok (.aload_n 0, 1) by decide +kernel) rfl e0 ?_
  refine lv_bipush hx hb (v := 30) (show decode cX0_init 31 = .ok (.bipush 30, 2) by decide +kernel) (by decide) ?_
  refine ct_newa (ty := .int) (N' := 30) (t0 := 0) (a0 := (30, .inl fun _ => 0)) hx hb (hts _ (List.mem_cons_of_mem _ (tblG_m1 71 rfl rfl))) rfl hK rfl hP hD hS hA (fun _ => rfl) (by decide) (by decide) (by decide) (show 2 + 1 ≤ 4 by decide) (show 48 + 30 ≤ 108 by decide) (show decode cX0_init 33 = .ok (.newarray .int, 2) by decide +kernel) (fun q33 H hP hD hS => ?_)
  have hP : va_P D vwCl [(h0, .inr (0, [.ref q7, .ref q15, .long 0, .int 0, .null, .null, .int 0])), (q7, .inl (tc 0, 24, .inl fun _ => 0)), (q15, .inl (tc 0, 24, .inl fun _ => 0)), (q33, .inl (tc 0, 30, .inl fun _ => 0))] H := hP
  have hD : va_D A [(h0, .inr (0, [.ref q7, .ref q15, .long 0, .int 0, .null, .null, .int 0])), (q7, .inl (tc 0, 24, .inl fun _ => 0)), (q15, .inl (tc 0, 24, .inl fun _ => 0)), (q33, .inl (tc 0, 30, .inl fun _ => 0))] := hD
  refine W.widen (k := 3) (n := 78) (by decide) (by decide) ?_
  refine va_putF (D := D) (ref := RX0) (ci := 0) (v := .ref q33) (ty := .array .int) (C := RX0) (T := TX0) (N := 7) hx hb hts (fun w hw => List.mem_cons_of_mem _ (iG0 w hw)) tyX0 tyX0_ok nmX0 hown hK hP hD hS 0 rfl rfl 4 (by decide) (hts _ (List.mem_cons_of_mem _ (tblG_m1 86 rfl rfl))) (fun _ h9 => h9) rfl hin rfl (by decide +kernel) rfl rfl (Nat.le_of_ble_eq_true rfl) (show decode cX0_init 35 = .ok (.putfield 26, 3) by decide +kernel) (fun H locs hP hD hS => ?_)
  have hP : va_P D vwCl [(h0, .inr (0, [.ref q7, .ref q15, .long 0, .int 0, .ref q33, .null, .int 0])), (q7, .inl (tc 0, 24, .inl fun _ => 0)), (q15, .inl (tc 0, 24, .inl fun _ => 0)), (q33, .inl (tc 0, 30, .inl fun _ => 0))] H := hP
  have hD : va_D A [(h0, .inr (0, [.ref q7, .ref q15, .long 0, .int 0, .ref q33, .null, .int 0])), (q7, .inl (tc 0, 24, .inl fun _ => 0)), (q15, .inl (tc 0, 24, .inl fun _ => 0)), (q33, .inl (tc 0, 30, .inl fun _ => 0))] := hD
  refine lv_aload_n hx hb (show decode cX0_init 38 = .ok (.aload_n 0, 1) by decide +kernel) rfl e0 ?_
  refine lv_bipush hx hb (v := 30) (show decode cX0_init 39 = .ok (.bipush 30, 2) by decide +kernel) (by decide) ?_
  refine ct_newa (ty := .int) (N' := 30) (t0 := 0) (a0 := (30, .inl fun _ => 0)) hx hb (hts _ (List.mem_cons_of_mem _ (tblG_m1 71 rfl rfl))) rfl hK rfl hP hD hS hA (fun _ => rfl) (by decide) (by decide) (by decide) (show 3 + 1 ≤ 4 by decide) (show 78 + 30 ≤ 108 by decide) (show decode cX0_init 41 = .ok (.newarray .int, 2) by decide +kernel) (fun q41 H hP hD hS => ?_)
  have hP : va_P D vwCl [(h0, .inr (0, [.ref q7, .ref q15, .long 0, .int 0, .ref q33, .null, .int 0])), (q7, .inl (tc 0, 24, .inl fun _ => 0)), (q15, .inl (tc 0, 24, .inl fun _ => 0)), (q33, .inl (tc 0, 30, .inl fun _ => 0)), (q41, .inl (tc 0, 30, .inl fun _ => 0))] H := hP
  have hD : va_D A [(h0, .inr (0, [.ref q7, .ref q15, .long 0, .int 0, .ref q33, .null, .int 0])), (q7, .inl (tc 0, 24, .inl fun _ => 0)), (q15, .inl (tc 0, 24, .inl fun _ => 0)), (q33, .inl (tc 0, 30, .inl fun _ => 0)), (q41, .inl (tc 0, 30, .inl fun _ => 0))] := hD
  refine W.widen (k := 4) (n := 108) (by decide) (by decide) ?_
  refine va_putF (D := D) (ref := RX0) (ci := 0) (v := .ref q41) (ty := .array .int) (C := RX0) (T := TX0) (N := 7) hx hb hts (fun w hw => List.mem_cons_of_mem _ (iG0 w hw)) tyX0 tyX0_ok nmX0 hown hK hP hD hS 0 rfl rfl 5 (by decide) (hts _ (List.mem_cons_of_mem _ (tblG_m1 87 rfl rfl))) (fun _ h9 => h9) rfl hin rfl (by decide +kernel) rfl rfl (Nat.le_of_ble_eq_true rfl) (show decode cX0_init 43 = .ok (.putfield 29, 3) by decide +kernel) (fun H locs hP hD hS => ?_)
  have hP : va_P D vwCl [(h0, .inr (0, [.ref q7, .ref q15, .long 0, .int 0, .ref q33, .ref q41, .int 0])), (q7, .inl (tc 0, 24, .inl fun _ => 0)), (q15, .inl (tc 0, 24, .inl fun _ => 0)), (q33, .inl (tc 0, 30, .inl fun _ => 0)), (q41, .inl (tc 0, 30, .inl fun _ => 0))] H := hP
  have hD : va_D A [(h0, .inr (0, [.ref q7, .ref q15, .long 0, .int 0, .ref q33, .ref q41, .int 0])), (q7, .inl (tc 0, 24, .inl fun _ => 0)), (q15, .inl (tc 0, 24, .inl fun _ => 0)), (q33, .inl (tc 0, 30, .inl fun _ => 0)), (q41, .inl (tc 0, 30, .inl fun _ => 0))] := hD
  refine lv_aload_n hx hb (show decode cX0_init 46 = .ok (.aload_n 0, 1) by decide +kernel) rfl e0 ?_
  refine lv_iconst hx hb (n := 0) (v := 0) (show decode cX0_init 47 = .ok (.iconst 0, 1) by decide +kernel) (by decide) ?_
  refine va_put (D := D) (ref := RX0) (ci := 0) (v := .int 0) (ty := .int) (C := RX0) (T := TX0) (N := 7) hx hb hts (fun w hw => List.mem_cons_of_mem _ (iG0 w hw)) tyX0 tyX0_ok nmX0 hown hK hP hD hS 0 rfl rfl 6 (by decide) (hts _ (List.mem_cons_of_mem _ (tblG_m1 88 rfl rfl))) (fun _ h9 => h9) rfl (by decide +kernel) rfl rfl (Nat.le_of_ble_eq_true rfl) (show decode cX0_init 48 = .ok (.putfield 32, 3) by decide +kernel) (fun H locs hP hD hS => ?_)
  have hP : va_P D vwCl [(h0, .inr (0, [.ref q7, .ref q15, .long 0, .int 0, .ref q33, .ref q41, .int 0])), (q7, .inl (tc 0, 24, .inl fun _ => 0)), (q15, .inl (tc 0, 24, .inl fun _ => 0)), (q33, .inl (tc 0, 30, .inl fun _ => 0)), (q41, .inl (tc 0, 30, .inl fun _ => 0))] H := hP
  have hD : va_D A [(h0, .inr (0, [.ref q7, .ref q15, .long 0, .int 0, .ref q33, .ref q41, .int 0])), (q7, .inl (tc 0, 24, .inl fun _ => 0)), (q15, .inl (tc 0, 24, .inl fun _ => 0)), (q33, .inl (tc 0, 30, .inl fun _ => 0)), (q41, .inl (tc 0, 30, .inl fun _ => 0))] := hD
  exact W.vret hx hb hr (fun t ht hW => ⟨⟨fun k => [0, q7, q15, q33, q41].getD k 0, rfl, trivial, by rw [ht]; exact hP, hD⟩, hS.F ht⟩) hS.2.2 (show decode cX0_init 51 = .ok (.return_, 1) by decide +kernel)
def mI2 : xM := (yX2_init, prog_4_method_1_code, 1, none)
def wI2 (tc : Nat → ClassId) (h0 : Nat) (u : Nat → Nat) : va_W := [(h0, .inr (2, [.ref (u 1), .ref (u 2), .ref (u 3), .ref (u 4), .ref (u 5)])), ((u 1), .inl (tc 1, 30, .inr (.inl fun _ => 0))), ((u 2), .inl (tc 1, 30, .inr (.inl fun _ => 0))), ((u 3), .inl (tc 0, 30, .inl fun _ => 0)), ((u 4), .inl (tc 0, 30, .inl fun _ => 0)), ((u 5), .inl (tc 0, 12, .inl fun _ => 0))]
set_option maxHeartbeats 4000000 in
set_option maxRecDepth 20000 in
theorem met_i2 (l : Launch) (D : va_G) (tc : Nat → ClassId) (h0 sz : Nat) : Met l yX2_init (xwm mI2) { frames := 1, cells := 5, slots := 132, locals := 20 } (ctP D tc h0 (.inr (2, [.null, .null, .null, .null, .null])) sz) (va_Qv (fun _ : Nat → Nat => True) (fun u t => va_P D vwCl (wI2 tc h0 u) t.heap ∧ va_D (va_A [(h0, .inr (2, [.null, .null, .null, .null, .null]))] sz) (wI2 tc h0 u)) (va_A [(h0, .inr (2, [.null, .null, .null, .null, .null]))] sz)) 5 132 (va_A [(h0, .inr (2, [.null, .null, .null, .null, .null]))] sz) := by
  refine Met.ofW (cc := cX2_init) (maxL := 1) (ret := none) (by decide) rfl ?_
  intro p e s m args below meth c s₁ B hml hv
  obtain ⟨rfl, hsz, hP, hK⟩ := hv
  have hx := B.exec
  have hb := B.bytes
  have hr := B.returns
  have hts := atoms_spec (ws := xwm mI2) B.pre
  have hown : s.vm.findClass RX2 = some m.cls := findClass_of_methodNamed B.named
  have hin : meth.name = "<init>" := (name_of_methodNamed B.named B.method).1
  subst hsz
  have hD : va_D (va_A [(h0, .inr (2, [.null, .null, .null, .null, .null]))] s.heap.size) [(h0, .inr (2, [.null, .null, .null, .null, .null]))] := ct_one
  generalize hAe : va_A [(h0, .inr (2, [.null, .null, .null, .null, .null]))] s.heap.size = A at hD ⊢
  have hA : ∀ q : Nat, s.heap.size ≤ q → A q := fun q h => by rw [← hAe]; exact Or.inr h
  have hS : va_S A s.heap s.heap [] := va_S.rf
  have hl := lv_entry ([.ref h0]) (n := 1) (Nat.le_of_ble_eq_true rfl)
  rw [lg_entry_eq]
  generalize (lg_sl ([.ref h0]) ++ List.replicate (1 - (lg_sl ([.ref h0])).length) Slot.unset).toArray = ls at hl ⊢
  have hl : lv_has ls 1 [(0, .ref h0)] := hl
  have e0 := lv_at hl 0 rfl
  refine lv_aload_n hx hb (show decode cX2_init 0 = .ok (.aload_n 0, 1) by decide +kernel) rfl e0 ?_
  refine W.objInit hx hb hown (hts _ (List.mem_cons_of_mem _ (tblG_m1 110 rfl rfl))) (hts _ (List.mem_cons_of_mem _ (tblG_m1 24 rfl rfl))) (hts _ (List.mem_cons_of_mem _ (tblG_m1 25 rfl rfl))) rfl (by rw [hml]; exact hl.1) rfl (show decode cX2_init 1 = .ok (.invokespecial 3, 3) by decide +kernel) (Nat.le_of_ble_eq_true rfl) (Nat.le_of_ble_eq_true rfl) ?_
  refine W.eq (g2 := F0 m 4 ls []) rfl ?_
  refine lv_aload_n hx hb (show decode cX2_init 4 = .ok (.aload_n 0, 1) by decide +kernel) rfl e0 ?_
  refine lv_bipush hx hb (v := 30) (show decode cX2_init 5 = .ok (.bipush 30, 2) by decide +kernel) (by decide) ?_
  refine ct_newa (ty := .long) (N' := 30) (t0 := 1) (a0 := (30, .inr (.inl fun _ => 0))) hx hb (hts _ (List.mem_cons_of_mem _ (tblG_m1 131 rfl rfl))) rfl hK rfl hP hD hS hA (fun _ => rfl) (by decide) (by decide) (by decide) (show 0 + 1 ≤ 5 by decide) (show 0 + 30 ≤ 132 by decide) (show decode cX2_init 7 = .ok (.newarray .long, 2) by decide +kernel) (fun q7 H hP hD hS => ?_)
  have hP : va_P D vwCl [(h0, .inr (2, [.null, .null, .null, .null, .null])), (q7, .inl (tc 1, 30, .inr (.inl fun _ => 0)))] H := hP
  have hD : va_D A [(h0, .inr (2, [.null, .null, .null, .null, .null])), (q7, .inl (tc 1, 30, .inr (.inl fun _ => 0)))] := hD
  refine W.widen (k := 1) (n := 30) (by decide) (by decide) ?_
  refine va_putF (D := D) (ref := RX2) (ci := 2) (v := .ref q7) (ty := .array .long) (C := RX2) (T := TX2) (N := 5) hx hb hts (fun w hw => List.mem_cons_of_mem _ (iG2 w hw)) tyX2 tyX2_ok nmX2 hown hK hP hD hS 0 rfl rfl 0 (by decide) (hts _ (List.mem_cons_of_mem _ (tblG_m1 111 rfl rfl))) (fun _ h9 => h9) rfl hin rfl (by decide +kernel) rfl rfl (Nat.le_of_ble_eq_true rfl) (show decode cX2_init 9 = .ok (.putfield 9, 3) by decide +kernel) (fun H locs hP hD hS => ?_)
  have hP : va_P D vwCl [(h0, .inr (2, [.ref q7, .null, .null, .null, .null])), (q7, .inl (tc 1, 30, .inr (.inl fun _ => 0)))] H := hP
  have hD : va_D A [(h0, .inr (2, [.ref q7, .null, .null, .null, .null])), (q7, .inl (tc 1, 30, .inr (.inl fun _ => 0)))] := hD
  refine lv_aload_n hx hb (show decode cX2_init 12 = .ok (.aload_n 0, 1) by decide +kernel) rfl e0 ?_
  refine lv_bipush hx hb (v := 30) (show decode cX2_init 13 = .ok (.bipush 30, 2) by decide +kernel) (by decide) ?_
  refine ct_newa (ty := .long) (N' := 30) (t0 := 1) (a0 := (30, .inr (.inl fun _ => 0))) hx hb (hts _ (List.mem_cons_of_mem _ (tblG_m1 131 rfl rfl))) rfl hK rfl hP hD hS hA (fun _ => rfl) (by decide) (by decide) (by decide) (show 1 + 1 ≤ 5 by decide) (show 30 + 30 ≤ 132 by decide) (show decode cX2_init 15 = .ok (.newarray .long, 2) by decide +kernel) (fun q15 H hP hD hS => ?_)
  have hP : va_P D vwCl [(h0, .inr (2, [.ref q7, .null, .null, .null, .null])), (q7, .inl (tc 1, 30, .inr (.inl fun _ => 0))), (q15, .inl (tc 1, 30, .inr (.inl fun _ => 0)))] H := hP
  have hD : va_D A [(h0, .inr (2, [.ref q7, .null, .null, .null, .null])), (q7, .inl (tc 1, 30, .inr (.inl fun _ => 0))), (q15, .inl (tc 1, 30, .inr (.inl fun _ => 0)))] := hD
  refine W.widen (k := 2) (n := 60) (by decide) (by decide) ?_
  refine va_putF (D := D) (ref := RX2) (ci := 2) (v := .ref q15) (ty := .array .long) (C := RX2) (T := TX2) (N := 5) hx hb hts (fun w hw => List.mem_cons_of_mem _ (iG2 w hw)) tyX2 tyX2_ok nmX2 hown hK hP hD hS 0 rfl rfl 1 (by decide) (hts _ (List.mem_cons_of_mem _ (tblG_m1 113 rfl rfl))) (fun _ h9 => h9) rfl hin rfl (by decide +kernel) rfl rfl (Nat.le_of_ble_eq_true rfl) (show decode cX2_init 17 = .ok (.putfield 15, 3) by decide +kernel) (fun H locs hP hD hS => ?_)
  have hP : va_P D vwCl [(h0, .inr (2, [.ref q7, .ref q15, .null, .null, .null])), (q7, .inl (tc 1, 30, .inr (.inl fun _ => 0))), (q15, .inl (tc 1, 30, .inr (.inl fun _ => 0)))] H := hP
  have hD : va_D A [(h0, .inr (2, [.ref q7, .ref q15, .null, .null, .null])), (q7, .inl (tc 1, 30, .inr (.inl fun _ => 0))), (q15, .inl (tc 1, 30, .inr (.inl fun _ => 0)))] := hD
  refine lv_aload_n hx hb (show decode cX2_init 20 = .ok (.aload_n 0, 1) by decide +kernel) rfl e0 ?_
  refine lv_bipush hx hb (v := 30) (show decode cX2_init 21 = .ok (.bipush 30, 2) by decide +kernel) (by decide) ?_
  refine ct_newa (ty := .int) (N' := 30) (t0 := 0) (a0 := (30, .inl fun _ => 0)) hx hb (hts _ (List.mem_cons_of_mem _ (tblG_m1 71 rfl rfl))) rfl hK rfl hP hD hS hA (fun _ => rfl) (by decide) (by decide) (by decide) (show 2 + 1 ≤ 5 by decide) (show 60 + 30 ≤ 132 by decide) (show decode cX2_init 23 = .ok (.newarray .int, 2) by decide +kernel) (fun q23 H hP hD hS => ?_)
  have hP : va_P D vwCl [(h0, .inr (2, [.ref q7, .ref q15, .null, .null, .null])), (q7, .inl (tc 1, 30, .inr (.inl fun _ => 0))), (q15, .inl (tc 1, 30, .inr (.inl fun _ => 0))), (q23, .inl (tc 0, 30, .inl fun _ => 0))] H := hP
  have hD : va_D A [(h0, .inr (2, [.ref q7, .ref q15, .null, .null, .null])), (q7, .inl (tc 1, 30, .inr (.inl fun _ => 0))), (q15, .inl (tc 1, 30, .inr (.inl fun _ => 0))), (q23, .inl (tc 0, 30, .inl fun _ => 0))] := hD
  refine W.widen (k := 3) (n := 90) (by decide) (by decide) ?_
  refine va_putF (D := D) (ref := RX2) (ci := 2) (v := .ref q23) (ty := .array .int) (C := RX2) (T := TX2) (N := 5) hx hb hts (fun w hw => List.mem_cons_of_mem _ (iG2 w hw)) tyX2 tyX2_ok nmX2 hown hK hP hD hS 0 rfl rfl 2 (by decide) (hts _ (List.mem_cons_of_mem _ (tblG_m1 116 rfl rfl))) (fun _ h9 => h9) rfl hin rfl (by decide +kernel) rfl rfl (Nat.le_of_ble_eq_true rfl) (show decode cX2_init 25 = .ok (.putfield 18, 3) by decide +kernel) (fun H locs hP hD hS => ?_)
  have hP : va_P D vwCl [(h0, .inr (2, [.ref q7, .ref q15, .ref q23, .null, .null])), (q7, .inl (tc 1, 30, .inr (.inl fun _ => 0))), (q15, .inl (tc 1, 30, .inr (.inl fun _ => 0))), (q23, .inl (tc 0, 30, .inl fun _ => 0))] H := hP
  have hD : va_D A [(h0, .inr (2, [.ref q7, .ref q15, .ref q23, .null, .null])), (q7, .inl (tc 1, 30, .inr (.inl fun _ => 0))), (q15, .inl (tc 1, 30, .inr (.inl fun _ => 0))), (q23, .inl (tc 0, 30, .inl fun _ => 0))] := hD
  refine lv_aload_n hx hb (show decode cX2_init 28 = .ok (.aload_n 0, 1) by decide +kernel) rfl e0 ?_
  refine lv_bipush hx hb (v := 30) (show decode cX2_init 29 = .ok (.bipush 30, 2) by decide +kernel) (by decide) ?_
  refine ct_newa (ty := .int) (N' := 30) (t0 := 0) (a0 := (30, .inl fun _ => 0)) hx hb (hts _ (List.mem_cons_of_mem _ (tblG_m1 71 rfl rfl))) rfl hK rfl hP hD hS hA (fun _ => rfl) (by decide) (by decide) (by decide) (show 3 + 1 ≤ 5 by decide) (show 90 + 30 ≤ 132 by decide) (show decode cX2_init 31 = .ok (.newarray .int, 2) by decide +kernel) (fun q31 H hP hD hS => ?_)
  have hP : va_P D vwCl [(h0, .inr (2, [.ref q7, .ref q15, .ref q23, .null, .null])), (q7, .inl (tc 1, 30, .inr (.inl fun _ => 0))), (q15, .inl (tc 1, 30, .inr (.inl fun _ => 0))), (q23, .inl (tc 0, 30, .inl fun _ => 0)), (q31, .inl (tc 0, 30, .inl fun _ => 0))] H := hP
  have hD : va_D A [(h0, .inr (2, [.ref q7, .ref q15, .ref q23, .null, .null])), (q7, .inl (tc 1, 30, .inr (.inl fun _ => 0))), (q15, .inl (tc 1, 30, .inr (.inl fun _ => 0))), (q23, .inl (tc 0, 30, .inl fun _ => 0)), (q31, .inl (tc 0, 30, .inl fun _ => 0))] := hD
  refine W.widen (k := 4) (n := 120) (by decide) (by decide) ?_
  refine va_putF (D := D) (ref := RX2) (ci := 2) (v := .ref q31) (ty := .array .int) (C := RX2) (T := TX2) (N := 5) hx hb hts (fun w hw => List.mem_cons_of_mem _ (iG2 w hw)) tyX2 tyX2_ok nmX2 hown hK hP hD hS 0 rfl rfl 3 (by decide) (hts _ (List.mem_cons_of_mem _ (tblG_m1 118 rfl rfl))) (fun _ h9 => h9) rfl hin rfl (by decide +kernel) rfl rfl (Nat.le_of_ble_eq_true rfl) (show decode cX2_init 33 = .ok (.putfield 22, 3) by decide +kernel) (fun H locs hP hD hS => ?_)
  have hP : va_P D vwCl [(h0, .inr (2, [.ref q7, .ref q15, .ref q23, .ref q31, .null])), (q7, .inl (tc 1, 30, .inr (.inl fun _ => 0))), (q15, .inl (tc 1, 30, .inr (.inl fun _ => 0))), (q23, .inl (tc 0, 30, .inl fun _ => 0)), (q31, .inl (tc 0, 30, .inl fun _ => 0))] H := hP
  have hD : va_D A [(h0, .inr (2, [.ref q7, .ref q15, .ref q23, .ref q31, .null])), (q7, .inl (tc 1, 30, .inr (.inl fun _ => 0))), (q15, .inl (tc 1, 30, .inr (.inl fun _ => 0))), (q23, .inl (tc 0, 30, .inl fun _ => 0)), (q31, .inl (tc 0, 30, .inl fun _ => 0))] := hD
  refine lv_aload_n hx hb (show decode cX2_init 36 = .ok (.aload_n 0, 1) by decide +kernel) rfl e0 ?_
  refine lv_bipush hx hb (v := 12) (show decode cX2_init 37 = .ok (.bipush 12, 2) by decide +kernel) (by decide) ?_
  refine ct_newa (ty := .int) (N' := 12) (t0 := 0) (a0 := (12, .inl fun _ => 0)) hx hb (hts _ (List.mem_cons_of_mem _ (tblG_m1 71 rfl rfl))) rfl hK rfl hP hD hS hA (fun _ => rfl) (by decide) (by decide) (by decide) (show 4 + 1 ≤ 5 by decide) (show 120 + 12 ≤ 132 by decide) (show decode cX2_init 39 = .ok (.newarray .int, 2) by decide +kernel) (fun q39 H hP hD hS => ?_)
  have hP : va_P D vwCl [(h0, .inr (2, [.ref q7, .ref q15, .ref q23, .ref q31, .null])), (q7, .inl (tc 1, 30, .inr (.inl fun _ => 0))), (q15, .inl (tc 1, 30, .inr (.inl fun _ => 0))), (q23, .inl (tc 0, 30, .inl fun _ => 0)), (q31, .inl (tc 0, 30, .inl fun _ => 0)), (q39, .inl (tc 0, 12, .inl fun _ => 0))] H := hP
  have hD : va_D A [(h0, .inr (2, [.ref q7, .ref q15, .ref q23, .ref q31, .null])), (q7, .inl (tc 1, 30, .inr (.inl fun _ => 0))), (q15, .inl (tc 1, 30, .inr (.inl fun _ => 0))), (q23, .inl (tc 0, 30, .inl fun _ => 0)), (q31, .inl (tc 0, 30, .inl fun _ => 0)), (q39, .inl (tc 0, 12, .inl fun _ => 0))] := hD
  refine W.widen (k := 5) (n := 132) (by decide) (by decide) ?_
  refine va_putF (D := D) (ref := RX2) (ci := 2) (v := .ref q39) (ty := .array .int) (C := RX2) (T := TX2) (N := 5) hx hb hts (fun w hw => List.mem_cons_of_mem _ (iG2 w hw)) tyX2 tyX2_ok nmX2 hown hK hP hD hS 0 rfl rfl 4 (by decide) (hts _ (List.mem_cons_of_mem _ (tblG_m1 119 rfl rfl))) (fun _ h9 => h9) rfl hin rfl (by decide +kernel) rfl rfl (Nat.le_of_ble_eq_true rfl) (show decode cX2_init 41 = .ok (.putfield 25, 3) by decide +kernel) (fun H locs hP hD hS => ?_)
  have hP : va_P D vwCl [(h0, .inr (2, [.ref q7, .ref q15, .ref q23, .ref q31, .ref q39])), (q7, .inl (tc 1, 30, .inr (.inl fun _ => 0))), (q15, .inl (tc 1, 30, .inr (.inl fun _ => 0))), (q23, .inl (tc 0, 30, .inl fun _ => 0)), (q31, .inl (tc 0, 30, .inl fun _ => 0)), (q39, .inl (tc 0, 12, .inl fun _ => 0))] H := hP
  have hD : va_D A [(h0, .inr (2, [.ref q7, .ref q15, .ref q23, .ref q31, .ref q39])), (q7, .inl (tc 1, 30, .inr (.inl fun _ => 0))), (q15, .inl (tc 1, 30, .inr (.inl fun _ => 0))), (q23, .inl (tc 0, 30, .inl fun _ => 0)), (q31, .inl (tc 0, 30, .inl fun _ => 0)), (q39, .inl (tc 0, 12, .inl fun _ => 0))] := hD
  exact W.vret hx hb hr (fun t ht hW => ⟨⟨fun k => [0, q7, q15, q23, q31, q39].getD k 0, rfl, trivial, by rw [ht]; exact hP, hD⟩, hS.F ht⟩) hS.2.2 (show decode cX2_init 44 = .ok (.return_, 1) by decide +kernel)
def mI6 : xM := (yX6_init, prog_8_method_1_code, 1, none)
def wI6 (tc : Nat → ClassId) (h0 : Nat) (u : Nat → Nat) : va_W := [(h0, .inr (6, [.int 0, .int 0, .ref (u 1), .ref (u 2), .ref (u 3), .int 0, .ref (u 4), .ref (u 5), .ref (u 6), .ref (u 7)])), ((u 1), .inl (tc 0, 12, .inl fun _ => 0)), ((u 2), .inl (tc 0, 12, .inl fun _ => 0)), ((u 3), .inl (tc 0, 12, .inl fun _ => 0)), ((u 4), .inl (tc 0, 729, .inl fun _ => 0)), ((u 5), .inl (tc 0, 4096, .inl fun _ => 0)), ((u 6), .inl (tc 1, 729, .inr (.inl fun _ => 0))), ((u 7), .inl (tc 0, 8748, .inl fun _ => 0))]
set_option maxHeartbeats 4000000 in
set_option maxRecDepth 20000 in
theorem met_i6 (l : Launch) (D : va_G) (tc : Nat → ClassId) (h0 sz : Nat) : Met l yX6_init (xwm mI6) { frames := 1, cells := 7, slots := 14338, locals := 20 } (ctP D tc h0 (.inr (6, [.int 0, .int 0, .null, .null, .null, .int 0, .null, .null, .null, .null])) sz) (va_Qv (fun _ : Nat → Nat => True) (fun u t => va_P D vwCl (wI6 tc h0 u) t.heap ∧ va_D (va_A [(h0, .inr (6, [.int 0, .int 0, .null, .null, .null, .int 0, .null, .null, .null, .null]))] sz) (wI6 tc h0 u)) (va_A [(h0, .inr (6, [.int 0, .int 0, .null, .null, .null, .int 0, .null, .null, .null, .null]))] sz)) 7 14338 (va_A [(h0, .inr (6, [.int 0, .int 0, .null, .null, .null, .int 0, .null, .null, .null, .null]))] sz) := by
  refine Met.ofW (cc := cX6_init) (maxL := 1) (ret := none) (by decide) rfl ?_
  intro p e s m args below meth c s₁ B hml hv
  obtain ⟨rfl, hsz, hP, hK⟩ := hv
  have hx := B.exec
  have hb := B.bytes
  have hr := B.returns
  have hts := atoms_spec (ws := xwm mI6) B.pre
  have hown : s.vm.findClass RX6 = some m.cls := findClass_of_methodNamed B.named
  have hin : meth.name = "<init>" := (name_of_methodNamed B.named B.method).1
  subst hsz
  have hD : va_D (va_A [(h0, .inr (6, [.int 0, .int 0, .null, .null, .null, .int 0, .null, .null, .null, .null]))] s.heap.size) [(h0, .inr (6, [.int 0, .int 0, .null, .null, .null, .int 0, .null, .null, .null, .null]))] := ct_one
  generalize hAe : va_A [(h0, .inr (6, [.int 0, .int 0, .null, .null, .null, .int 0, .null, .null, .null, .null]))] s.heap.size = A at hD ⊢
  have hA : ∀ q : Nat, s.heap.size ≤ q → A q := fun q h => by rw [← hAe]; exact Or.inr h
  have hS : va_S A s.heap s.heap [] := va_S.rf
  have hl := lv_entry ([.ref h0]) (n := 1) (Nat.le_of_ble_eq_true rfl)
  rw [lg_entry_eq]
  generalize (lg_sl ([.ref h0]) ++ List.replicate (1 - (lg_sl ([.ref h0])).length) Slot.unset).toArray = ls at hl ⊢
  have hl : lv_has ls 1 [(0, .ref h0)] := hl
  have e0 := lv_at hl 0 rfl
  refine lv_aload_n hx hb (show decode cX6_init 0 = .ok (.aload_n 0, 1) by decide +kernel) rfl e0 ?_
  refine W.objInit hx hb hown (hts _ (List.mem_cons_of_mem _ (tblG_m1 137 rfl rfl))) (hts _ (List.mem_cons_of_mem _ (tblG_m1 24 rfl rfl))) (hts _ (List.mem_cons_of_mem _ (tblG_m1 25 rfl rfl))) rfl (by rw [hml]; exact hl.1) rfl (show decode cX6_init 1 = .ok (.invokespecial 3, 3) by decide +kernel) (Nat.le_of_ble_eq_true rfl) (Nat.le_of_ble_eq_true rfl) ?_
  refine W.eq (g2 := F0 m 4 ls []) rfl ?_
  refine lv_aload_n hx hb (show decode cX6_init 4 = .ok (.aload_n 0, 1) by decide +kernel) rfl e0 ?_
  refine lv_iconst hx hb (n := 0) (v := 0) (show decode cX6_init 5 = .ok (.iconst 0, 1) by decide +kernel) (by decide) ?_
  refine va_put (D := D) (ref := RX6) (ci := 6) (v := .int 0) (ty := .int) (C := RX6) (T := TX6) (N := 10) hx hb hts (fun w hw => List.mem_cons_of_mem _ (iG6 w hw)) tyX6 tyX6_ok nmX6 hown hK hP hD hS 0 rfl rfl 0 (by decide) (hts _ (List.mem_cons_of_mem _ (tblG_m1 138 rfl rfl))) (fun _ h9 => h9) rfl (by decide +kernel) rfl rfl (Nat.le_of_ble_eq_true rfl) (show decode cX6_init 6 = .ok (.putfield 9, 3) by decide +kernel) (fun H locs hP hD hS => ?_)
  have hP : va_P D vwCl [(h0, .inr (6, [.int 0, .int 0, .null, .null, .null, .int 0, .null, .null, .null, .null]))] H := hP
  have hD : va_D A [(h0, .inr (6, [.int 0, .int 0, .null, .null, .null, .int 0, .null, .null, .null, .null]))] := hD
  refine lv_aload_n hx hb (show decode cX6_init 9 = .ok (.aload_n 0, 1) by decide +kernel) rfl e0 ?_
  refine lv_iconst hx hb (n := 0) (v := 0) (show decode cX6_init 10 = .ok (.iconst 0, 1) by decide +kernel) (by decide) ?_
  refine va_put (D := D) (ref := RX6) (ci := 6) (v := .int 0) (ty := .boolean) (C := RX6) (T := TX6) (N := 10) hx hb hts (fun w hw => List.mem_cons_of_mem _ (iG6 w hw)) tyX6 tyX6_ok nmX6 hown hK hP hD hS 0 rfl rfl 1 (by decide) (hts _ (List.mem_cons_of_mem _ (tblG_m1 140 rfl rfl))) (fun _ h9 => h9) rfl (by decide +kernel) rfl rfl (Nat.le_of_ble_eq_true rfl) (show decode cX6_init 11 = .ok (.putfield 15, 3) by decide +kernel) (fun H locs hP hD hS => ?_)
  have hP : va_P D vwCl [(h0, .inr (6, [.int 0, .int 0, .null, .null, .null, .int 0, .null, .null, .null, .null]))] H := hP
  have hD : va_D A [(h0, .inr (6, [.int 0, .int 0, .null, .null, .null, .int 0, .null, .null, .null, .null]))] := hD
  refine lv_aload_n hx hb (show decode cX6_init 14 = .ok (.aload_n 0, 1) by decide +kernel) rfl e0 ?_
  refine lv_bipush hx hb (v := 12) (show decode cX6_init 15 = .ok (.bipush 12, 2) by decide +kernel) (by decide) ?_
  refine ct_newa (ty := .int) (N' := 12) (t0 := 0) (a0 := (12, .inl fun _ => 0)) hx hb (hts _ (List.mem_cons_of_mem _ (tblG_m1 71 rfl rfl))) rfl hK rfl hP hD hS hA (fun _ => rfl) (by decide) (by decide) (by decide) (show 0 + 1 ≤ 7 by decide) (show 0 + 12 ≤ 14338 by decide) (show decode cX6_init 17 = .ok (.newarray .int, 2) by decide +kernel) (fun q17 H hP hD hS => ?_)
  have hP : va_P D vwCl [(h0, .inr (6, [.int 0, .int 0, .null, .null, .null, .int 0, .null, .null, .null, .null])), (q17, .inl (tc 0, 12, .inl fun _ => 0))] H := hP
  have hD : va_D A [(h0, .inr (6, [.int 0, .int 0, .null, .null, .null, .int 0, .null, .null, .null, .null])), (q17, .inl (tc 0, 12, .inl fun _ => 0))] := hD
  refine W.widen (k := 1) (n := 12) (by decide) (by decide) ?_
  refine va_putF (D := D) (ref := RX6) (ci := 6) (v := .ref q17) (ty := .array .int) (C := RX6) (T := TX6) (N := 10) hx hb hts (fun w hw => List.mem_cons_of_mem _ (iG6 w hw)) tyX6 tyX6_ok nmX6 hown hK hP hD hS 0 rfl rfl 2 (by decide) (hts _ (List.mem_cons_of_mem _ (tblG_m1 142 rfl rfl))) (fun _ h9 => h9) rfl hin rfl (by decide +kernel) rfl rfl (Nat.le_of_ble_eq_true rfl) (show decode cX6_init 19 = .ok (.putfield 19, 3) by decide +kernel) (fun H locs hP hD hS => ?_)
  have hP : va_P D vwCl [(h0, .inr (6, [.int 0, .int 0, .ref q17, .null, .null, .int 0, .null, .null, .null, .null])), (q17, .inl (tc 0, 12, .inl fun _ => 0))] H := hP
  have hD : va_D A [(h0, .inr (6, [.int 0, .int 0, .ref q17, .null, .null, .int 0, .null, .null, .null, .null])), (q17, .inl (tc 0, 12, .inl fun _ => 0))] := hD
  refine lv_aload_n hx hb (show decode cX6_init 22 = .ok (.aload_n 0, 1) by decide +kernel) rfl e0 ?_
  refine lv_bipush hx hb (v := 12) (show decode cX6_init 23 = .ok (.bipush 12, 2) by decide +kernel) (by decide) ?_
  refine ct_newa (ty := .int) (N' := 12) (t0 := 0) (a0 := (12, .inl fun _ => 0)) hx hb (hts _ (List.mem_cons_of_mem _ (tblG_m1 71 rfl rfl))) rfl hK rfl hP hD hS hA (fun _ => rfl) (by decide) (by decide) (by decide) (show 1 + 1 ≤ 7 by decide) (show 12 + 12 ≤ 14338 by decide) (show decode cX6_init 25 = .ok (.newarray .int, 2) by decide +kernel) (fun q25 H hP hD hS => ?_)
  have hP : va_P D vwCl [(h0, .inr (6, [.int 0, .int 0, .ref q17, .null, .null, .int 0, .null, .null, .null, .null])), (q17, .inl (tc 0, 12, .inl fun _ => 0)), (q25, .inl (tc 0, 12, .inl fun _ => 0))] H := hP
  have hD : va_D A [(h0, .inr (6, [.int 0, .int 0, .ref q17, .null, .null, .int 0, .null, .null, .null, .null])), (q17, .inl (tc 0, 12, .inl fun _ => 0)), (q25, .inl (tc 0, 12, .inl fun _ => 0))] := hD
  refine W.widen (k := 2) (n := 24) (by decide) (by decide) ?_
  refine va_putF (D := D) (ref := RX6) (ci := 6) (v := .ref q25) (ty := .array .int) (C := RX6) (T := TX6) (N := 10) hx hb hts (fun w hw => List.mem_cons_of_mem _ (iG6 w hw)) tyX6 tyX6_ok nmX6 hown hK hP hD hS 0 rfl rfl 3 (by decide) (hts _ (List.mem_cons_of_mem _ (tblG_m1 143 rfl rfl))) (fun _ h9 => h9) rfl hin rfl (by decide +kernel) rfl rfl (Nat.le_of_ble_eq_true rfl) (show decode cX6_init 27 = .ok (.putfield 23, 3) by decide +kernel) (fun H locs hP hD hS => ?_)
  have hP : va_P D vwCl [(h0, .inr (6, [.int 0, .int 0, .ref q17, .ref q25, .null, .int 0, .null, .null, .null, .null])), (q17, .inl (tc 0, 12, .inl fun _ => 0)), (q25, .inl (tc 0, 12, .inl fun _ => 0))] H := hP
  have hD : va_D A [(h0, .inr (6, [.int 0, .int 0, .ref q17, .ref q25, .null, .int 0, .null, .null, .null, .null])), (q17, .inl (tc 0, 12, .inl fun _ => 0)), (q25, .inl (tc 0, 12, .inl fun _ => 0))] := hD
  refine lv_aload_n hx hb (show decode cX6_init 30 = .ok (.aload_n 0, 1) by decide +kernel) rfl e0 ?_
  refine lv_bipush hx hb (v := 12) (show decode cX6_init 31 = .ok (.bipush 12, 2) by decide +kernel) (by decide) ?_
  refine ct_newa (ty := .int) (N' := 12) (t0 := 0) (a0 := (12, .inl fun _ => 0)) hx hb (hts _ (List.mem_cons_of_mem _ (tblG_m1 71 rfl rfl))) rfl hK rfl hP hD hS hA (fun _ => rfl) (by decide) (by decide) (by decide) (show 2 + 1 ≤ 7 by decide) (show 24 + 12 ≤ 14338 by decide) (show decode cX6_init 33 = .ok (.newarray .int, 2) by decide +kernel) (fun q33 H hP hD hS => ?_)
  have hP : va_P D vwCl [(h0, .inr (6, [.int 0, .int 0, .ref q17, .ref q25, .null, .int 0, .null, .null, .null, .null])), (q17, .inl (tc 0, 12, .inl fun _ => 0)), (q25, .inl (tc 0, 12, .inl fun _ => 0)), (q33, .inl (tc 0, 12, .inl fun _ => 0))] H := hP
  have hD : va_D A [(h0, .inr (6, [.int 0, .int 0, .ref q17, .ref q25, .null, .int 0, .null, .null, .null, .null])), (q17, .inl (tc 0, 12, .inl fun _ => 0)), (q25, .inl (tc 0, 12, .inl fun _ => 0)), (q33, .inl (tc 0, 12, .inl fun _ => 0))] := hD
  refine W.widen (k := 3) (n := 36) (by decide) (by decide) ?_
  refine va_putF (D := D) (ref := RX6) (ci := 6) (v := .ref q33) (ty := .array .int) (C := RX6) (T := TX6) (N := 10) hx hb hts (fun w hw => List.mem_cons_of_mem _ (iG6 w hw)) tyX6 tyX6_ok nmX6 hown hK hP hD hS 0 rfl rfl 4 (by decide) (hts _ (List.mem_cons_of_mem _ (tblG_m1 144 rfl rfl))) (fun _ h9 => h9) rfl hin rfl (by decide +kernel) rfl rfl (Nat.le_of_ble_eq_true rfl) (show decode cX6_init 35 = .ok (.putfield 26, 3) by decide +kernel) (fun H locs hP hD hS => ?_)
  have hP : va_P D vwCl [(h0, .inr (6, [.int 0, .int 0, .ref q17, .ref q25, .ref q33, .int 0, .null, .null, .null, .null])), (q17, .inl (tc 0, 12, .inl fun _ => 0)), (q25, .inl (tc 0, 12, .inl fun _ => 0)), (q33, .inl (tc 0, 12, .inl fun _ => 0))] H := hP
  have hD : va_D A [(h0, .inr (6, [.int 0, .int 0, .ref q17, .ref q25, .ref q33, .int 0, .null, .null, .null, .null])), (q17, .inl (tc 0, 12, .inl fun _ => 0)), (q25, .inl (tc 0, 12, .inl fun _ => 0)), (q33, .inl (tc 0, 12, .inl fun _ => 0))] := hD
  refine lv_aload_n hx hb (show decode cX6_init 38 = .ok (.aload_n 0, 1) by decide +kernel) rfl e0 ?_
  refine lv_iconst hx hb (n := 0) (v := 0) (show decode cX6_init 39 = .ok (.iconst 0, 1) by decide +kernel) (by decide) ?_
  refine va_put (D := D) (ref := RX6) (ci := 6) (v := .int 0) (ty := .int) (C := RX6) (T := TX6) (N := 10) hx hb hts (fun w hw => List.mem_cons_of_mem _ (iG6 w hw)) tyX6 tyX6_ok nmX6 hown hK hP hD hS 0 rfl rfl 5 (by decide) (hts _ (List.mem_cons_of_mem _ (tblG_m1 145 rfl rfl))) (fun _ h9 => h9) rfl (by decide +kernel) rfl rfl (Nat.le_of_ble_eq_true rfl) (show decode cX6_init 40 = .ok (.putfield 29, 3) by decide +kernel) (fun H locs hP hD hS => ?_)
  have hP : va_P D vwCl [(h0, .inr (6, [.int 0, .int 0, .ref q17, .ref q25, .ref q33, .int 0, .null, .null, .null, .null])), (q17, .inl (tc 0, 12, .inl fun _ => 0)), (q25, .inl (tc 0, 12, .inl fun _ => 0)), (q33, .inl (tc 0, 12, .inl fun _ => 0))] H := hP
  have hD : va_D A [(h0, .inr (6, [.int 0, .int 0, .ref q17, .ref q25, .ref q33, .int 0, .null, .null, .null, .null])), (q17, .inl (tc 0, 12, .inl fun _ => 0)), (q25, .inl (tc 0, 12, .inl fun _ => 0)), (q33, .inl (tc 0, 12, .inl fun _ => 0))] := hD
  refine lv_aload_n hx hb (show decode cX6_init 43 = .ok (.aload_n 0, 1) by decide +kernel) rfl e0 ?_
  refine lv_sipush hx hb (v := 729) (show decode cX6_init 44 = .ok (.sipush 729, 3) by decide +kernel) (by decide) ?_
  refine ct_newa (ty := .int) (N' := 729) (t0 := 0) (a0 := (729, .inl fun _ => 0)) hx hb (hts _ (List.mem_cons_of_mem _ (tblG_m1 71 rfl rfl))) rfl hK rfl hP hD hS hA (fun _ => rfl) (by decide) (by decide) (by decide) (show 3 + 1 ≤ 7 by decide) (show 36 + 729 ≤ 14338 by decide) (show decode cX6_init 47 = .ok (.newarray .int, 2) by decide +kernel) (fun q47 H hP hD hS => ?_)
  have hP : va_P D vwCl [(h0, .inr (6, [.int 0, .int 0, .ref q17, .ref q25, .ref q33, .int 0, .null, .null, .null, .null])), (q17, .inl (tc 0, 12, .inl fun _ => 0)), (q25, .inl (tc 0, 12, .inl fun _ => 0)), (q33, .inl (tc 0, 12, .inl fun _ => 0)), (q47, .inl (tc 0, 729, .inl fun _ => 0))] H := hP
  have hD : va_D A [(h0, .inr (6, [.int 0, .int 0, .ref q17, .ref q25, .ref q33, .int 0, .null, .null, .null, .null])), (q17, .inl (tc 0, 12, .inl fun _ => 0)), (q25, .inl (tc 0, 12, .inl fun _ => 0)), (q33, .inl (tc 0, 12, .inl fun _ => 0)), (q47, .inl (tc 0, 729, .inl fun _ => 0))] := hD
  refine W.widen (k := 4) (n := 765) (by decide) (by decide) ?_
  refine va_putF (D := D) (ref := RX6) (ci := 6) (v := .ref q47) (ty := .array .int) (C := RX6) (T := TX6) (N := 10) hx hb hts (fun w hw => List.mem_cons_of_mem _ (iG6 w hw)) tyX6 tyX6_ok nmX6 hown hK hP hD hS 0 rfl rfl 6 (by decide) (hts _ (List.mem_cons_of_mem _ (tblG_m1 146 rfl rfl))) (fun _ h9 => h9) rfl hin rfl (by decide +kernel) rfl rfl (Nat.le_of_ble_eq_true rfl) (show decode cX6_init 49 = .ok (.putfield 32, 3) by decide +kernel) (fun H locs hP hD hS => ?_)
  have hP : va_P D vwCl [(h0, .inr (6, [.int 0, .int 0, .ref q17, .ref q25, .ref q33, .int 0, .ref q47, .null, .null, .null])), (q17, .inl (tc 0, 12, .inl fun _ => 0)), (q25, .inl (tc 0, 12, .inl fun _ => 0)), (q33, .inl (tc 0, 12, .inl fun _ => 0)), (q47, .inl (tc 0, 729, .inl fun _ => 0))] H := hP
  have hD : va_D A [(h0, .inr (6, [.int 0, .int 0, .ref q17, .ref q25, .ref q33, .int 0, .ref q47, .null, .null, .null])), (q17, .inl (tc 0, 12, .inl fun _ => 0)), (q25, .inl (tc 0, 12, .inl fun _ => 0)), (q33, .inl (tc 0, 12, .inl fun _ => 0)), (q47, .inl (tc 0, 729, .inl fun _ => 0))] := hD
  refine lv_aload_n hx hb (show decode cX6_init 52 = .ok (.aload_n 0, 1) by decide +kernel) rfl e0 ?_
  refine lv_sipush hx hb (v := 4096) (show decode cX6_init 53 = .ok (.sipush 4096, 3) by decide +kernel) (by decide) ?_
  refine ct_newa (ty := .int) (N' := 4096) (t0 := 0) (a0 := (4096, .inl fun _ => 0)) hx hb (hts _ (List.mem_cons_of_mem _ (tblG_m1 71 rfl rfl))) rfl hK rfl hP hD hS hA (fun _ => rfl) (by decide) (by decide) (by decide) (show 4 + 1 ≤ 7 by decide) (show 765 + 4096 ≤ 14338 by decide) (show decode cX6_init 56 = .ok (.newarray .int, 2) by decide +kernel) (fun q56 H hP hD hS => ?_)
  have hP : va_P D vwCl [(h0, .inr (6, [.int 0, .int 0, .ref q17, .ref q25, .ref q33, .int 0, .ref q47, .null, .null, .null])), (q17, .inl (tc 0, 12, .inl fun _ => 0)), (q25, .inl (tc 0, 12, .inl fun _ => 0)), (q33, .inl (tc 0, 12, .inl fun _ => 0)), (q47, .inl (tc 0, 729, .inl fun _ => 0)), (q56, .inl (tc 0, 4096, .inl fun _ => 0))] H := hP
  have hD : va_D A [(h0, .inr (6, [.int 0, .int 0, .ref q17, .ref q25, .ref q33, .int 0, .ref q47, .null, .null, .null])), (q17, .inl (tc 0, 12, .inl fun _ => 0)), (q25, .inl (tc 0, 12, .inl fun _ => 0)), (q33, .inl (tc 0, 12, .inl fun _ => 0)), (q47, .inl (tc 0, 729, .inl fun _ => 0)), (q56, .inl (tc 0, 4096, .inl fun _ => 0))] := hD
  refine W.widen (k := 5) (n := 4861) (by decide) (by decide) ?_
  refine va_putF (D := D) (ref := RX6) (ci := 6) (v := .ref q56) (ty := .array .int) (C := RX6) (T := TX6) (N := 10) hx hb hts (fun w hw => List.mem_cons_of_mem _ (iG6 w hw)) tyX6 tyX6_ok nmX6 hown hK hP hD hS 0 rfl rfl 7 (by decide) (hts _ (List.mem_cons_of_mem _ (tblG_m1 147 rfl rfl))) (fun _ h9 => h9) rfl hin rfl (by decide +kernel) rfl rfl (Nat.le_of_ble_eq_true rfl) (show decode cX6_init 58 = .ok (.putfield 35, 3) by decide +kernel) (fun H locs hP hD hS => ?_)
  have hP : va_P D vwCl [(h0, .inr (6, [.int 0, .int 0, .ref q17, .ref q25, .ref q33, .int 0, .ref q47, .ref q56, .null, .null])), (q17, .inl (tc 0, 12, .inl fun _ => 0)), (q25, .inl (tc 0, 12, .inl fun _ => 0)), (q33, .inl (tc 0, 12, .inl fun _ => 0)), (q47, .inl (tc 0, 729, .inl fun _ => 0)), (q56, .inl (tc 0, 4096, .inl fun _ => 0))] H := hP
  have hD : va_D A [(h0, .inr (6, [.int 0, .int 0, .ref q17, .ref q25, .ref q33, .int 0, .ref q47, .ref q56, .null, .null])), (q17, .inl (tc 0, 12, .inl fun _ => 0)), (q25, .inl (tc 0, 12, .inl fun _ => 0)), (q33, .inl (tc 0, 12, .inl fun _ => 0)), (q47, .inl (tc 0, 729, .inl fun _ => 0)), (q56, .inl (tc 0, 4096, .inl fun _ => 0))] := hD
  refine lv_aload_n hx hb (show decode cX6_init 61 = .ok (.aload_n 0, 1) by decide +kernel) rfl e0 ?_
  refine lv_sipush hx hb (v := 729) (show decode cX6_init 62 = .ok (.sipush 729, 3) by decide +kernel) (by decide) ?_
  refine ct_newa (ty := .long) (N' := 729) (t0 := 1) (a0 := (729, .inr (.inl fun _ => 0))) hx hb (hts _ (List.mem_cons_of_mem _ (tblG_m1 131 rfl rfl))) rfl hK rfl hP hD hS hA (fun _ => rfl) (by decide) (by decide) (by decide) (show 5 + 1 ≤ 7 by decide) (show 4861 + 729 ≤ 14338 by decide) (show decode cX6_init 65 = .ok (.newarray .long, 2) by decide +kernel) (fun q65 H hP hD hS => ?_)
  have hP : va_P D vwCl [(h0, .inr (6, [.int 0, .int 0, .ref q17, .ref q25, .ref q33, .int 0, .ref q47, .ref q56, .null, .null])), (q17, .inl (tc 0, 12, .inl fun _ => 0)), (q25, .inl (tc 0, 12, .inl fun _ => 0)), (q33, .inl (tc 0, 12, .inl fun _ => 0)), (q47, .inl (tc 0, 729, .inl fun _ => 0)), (q56, .inl (tc 0, 4096, .inl fun _ => 0)), (q65, .inl (tc 1, 729, .inr (.inl fun _ => 0)))] H := hP
  have hD : va_D A [(h0, .inr (6, [.int 0, .int 0, .ref q17, .ref q25, .ref q33, .int 0, .ref q47, .ref q56, .null, .null])), (q17, .inl (tc 0, 12, .inl fun _ => 0)), (q25, .inl (tc 0, 12, .inl fun _ => 0)), (q33, .inl (tc 0, 12, .inl fun _ => 0)), (q47, .inl (tc 0, 729, .inl fun _ => 0)), (q56, .inl (tc 0, 4096, .inl fun _ => 0)), (q65, .inl (tc 1, 729, .inr (.inl fun _ => 0)))] := hD
  refine W.widen (k := 6) (n := 5590) (by decide) (by decide) ?_
  refine va_putF (D := D) (ref := RX6) (ci := 6) (v := .ref q65) (ty := .array .long) (C := RX6) (T := TX6) (N := 10) hx hb hts (fun w hw => List.mem_cons_of_mem _ (iG6 w hw)) tyX6 tyX6_ok nmX6 hown hK hP hD hS 0 rfl rfl 8 (by decide) (hts _ (List.mem_cons_of_mem _ (tblG_m1 148 rfl rfl))) (fun _ h9 => h9) rfl hin rfl (by decide +kernel) rfl rfl (Nat.le_of_ble_eq_true rfl) (show decode cX6_init 67 = .ok (.putfield 38, 3) by decide +kernel) (fun H locs hP hD hS => ?_)
  have hP : va_P D vwCl [(h0, .inr (6, [.int 0, .int 0, .ref q17, .ref q25, .ref q33, .int 0, .ref q47, .ref q56, .ref q65, .null])), (q17, .inl (tc 0, 12, .inl fun _ => 0)), (q25, .inl (tc 0, 12, .inl fun _ => 0)), (q33, .inl (tc 0, 12, .inl fun _ => 0)), (q47, .inl (tc 0, 729, .inl fun _ => 0)), (q56, .inl (tc 0, 4096, .inl fun _ => 0)), (q65, .inl (tc 1, 729, .inr (.inl fun _ => 0)))] H := hP
  have hD : va_D A [(h0, .inr (6, [.int 0, .int 0, .ref q17, .ref q25, .ref q33, .int 0, .ref q47, .ref q56, .ref q65, .null])), (q17, .inl (tc 0, 12, .inl fun _ => 0)), (q25, .inl (tc 0, 12, .inl fun _ => 0)), (q33, .inl (tc 0, 12, .inl fun _ => 0)), (q47, .inl (tc 0, 729, .inl fun _ => 0)), (q56, .inl (tc 0, 4096, .inl fun _ => 0)), (q65, .inl (tc 1, 729, .inr (.inl fun _ => 0)))] := hD
  refine lv_aload_n hx hb (show decode cX6_init 70 = .ok (.aload_n 0, 1) by decide +kernel) rfl e0 ?_
  refine lv_sipush hx hb (v := 8748) (show decode cX6_init 71 = .ok (.sipush 8748, 3) by decide +kernel) (by decide) ?_
  refine ct_newa (ty := .int) (N' := 8748) (t0 := 0) (a0 := (8748, .inl fun _ => 0)) hx hb (hts _ (List.mem_cons_of_mem _ (tblG_m1 71 rfl rfl))) rfl hK rfl hP hD hS hA (fun _ => rfl) (by decide) (by decide) (by decide) (show 6 + 1 ≤ 7 by decide) (show 5590 + 8748 ≤ 14338 by decide) (show decode cX6_init 74 = .ok (.newarray .int, 2) by decide +kernel) (fun q74 H hP hD hS => ?_)
  have hP : va_P D vwCl [(h0, .inr (6, [.int 0, .int 0, .ref q17, .ref q25, .ref q33, .int 0, .ref q47, .ref q56, .ref q65, .null])), (q17, .inl (tc 0, 12, .inl fun _ => 0)), (q25, .inl (tc 0, 12, .inl fun _ => 0)), (q33, .inl (tc 0, 12, .inl fun _ => 0)), (q47, .inl (tc 0, 729, .inl fun _ => 0)), (q56, .inl (tc 0, 4096, .inl fun _ => 0)), (q65, .inl (tc 1, 729, .inr (.inl fun _ => 0))), (q74, .inl (tc 0, 8748, .inl fun _ => 0))] H := hP
  have hD : va_D A [(h0, .inr (6, [.int 0, .int 0, .ref q17, .ref q25, .ref q33, .int 0, .ref q47, .ref q56, .ref q65, .null])), (q17, .inl (tc 0, 12, .inl fun _ => 0)), (q25, .inl (tc 0, 12, .inl fun _ => 0)), (q33, .inl (tc 0, 12, .inl fun _ => 0)), (q47, .inl (tc 0, 729, .inl fun _ => 0)), (q56, .inl (tc 0, 4096, .inl fun _ => 0)), (q65, .inl (tc 1, 729, .inr (.inl fun _ => 0))), (q74, .inl (tc 0, 8748, .inl fun _ => 0))] := hD
  refine W.widen (k := 7) (n := 14338) (by decide) (by decide) ?_
  refine va_putF (D := D) (ref := RX6) (ci := 6) (v := .ref q74) (ty := .array .int) (C := RX6) (T := TX6) (N := 10) hx hb hts (fun w hw => List.mem_cons_of_mem _ (iG6 w hw)) tyX6 tyX6_ok nmX6 hown hK hP hD hS 0 rfl rfl 9 (by decide) (hts _ (List.mem_cons_of_mem _ (tblG_m1 149 rfl rfl))) (fun _ h9 => h9) rfl hin rfl (by decide +kernel) rfl rfl (Nat.le_of_ble_eq_true rfl) (show decode cX6_init 76 = .ok (.putfield 42, 3) by decide +kernel) (fun H locs hP hD hS => ?_)
  have hP : va_P D vwCl [(h0, .inr (6, [.int 0, .int 0, .ref q17, .ref q25, .ref q33, .int 0, .ref q47, .ref q56, .ref q65, .ref q74])), (q17, .inl (tc 0, 12, .inl fun _ => 0)), (q25, .inl (tc 0, 12, .inl fun _ => 0)), (q33, .inl (tc 0, 12, .inl fun _ => 0)), (q47, .inl (tc 0, 729, .inl fun _ => 0)), (q56, .inl (tc 0, 4096, .inl fun _ => 0)), (q65, .inl (tc 1, 729, .inr (.inl fun _ => 0))), (q74, .inl (tc 0, 8748, .inl fun _ => 0))] H := hP
  have hD : va_D A [(h0, .inr (6, [.int 0, .int 0, .ref q17, .ref q25, .ref q33, .int 0, .ref q47, .ref q56, .ref q65, .ref q74])), (q17, .inl (tc 0, 12, .inl fun _ => 0)), (q25, .inl (tc 0, 12, .inl fun _ => 0)), (q33, .inl (tc 0, 12, .inl fun _ => 0)), (q47, .inl (tc 0, 729, .inl fun _ => 0)), (q56, .inl (tc 0, 4096, .inl fun _ => 0)), (q65, .inl (tc 1, 729, .inr (.inl fun _ => 0))), (q74, .inl (tc 0, 8748, .inl fun _ => 0))] := hD
  exact W.vret hx hb hr (fun t ht hW => ⟨⟨fun k => [0, q17, q25, q33, q47, q56, q65, q74].getD k 0, rfl, trivial, by rw [ht]; exact hP, hD⟩, hS.F ht⟩) hS.2.2 (show decode cX6_init 79 = .ok (.return_, 1) by decide +kernel)
def mI1 : xM := (yX1_init, prog_3_method_1_code, 1, none)
def wI1 (tc : Nat → ClassId) (h0 : Nat) (u : Nat → Nat) : va_W := [(h0, .inr (1, [.int 0, .int 0, .int 0, .int 0, .ref (u 1), .ref (u 2), .ref (u 3), .ref (u 4)])), ((u 1), .inl (tc 0, 10, .inl fun _ => 0)), ((u 2), .inl (tc 0, 10, .inl fun _ => 0)), ((u 3), .inl (tc 0, 10, .inl fun _ => 0)), ((u 4), .inl (tc 0, 1024, .inl fun _ => 0))]
set_option maxHeartbeats 4000000 in
set_option maxRecDepth 20000 in
theorem met_i1 (l : Launch) (D : va_G) (tc : Nat → ClassId) (h0 sz : Nat) : Met l yX1_init (xwm mI1) { frames := 1, cells := 4, slots := 1054, locals := 20 } (ctP D tc h0 (.inr (1, [.int 0, .int 0, .int 0, .int 0, .null, .null, .null, .null])) sz) (va_Qv (fun _ : Nat → Nat => True) (fun u t => va_P D vwCl (wI1 tc h0 u) t.heap ∧ va_D (va_A [(h0, .inr (1, [.int 0, .int 0, .int 0, .int 0, .null, .null, .null, .null]))] sz) (wI1 tc h0 u)) (va_A [(h0, .inr (1, [.int 0, .int 0, .int 0, .int 0, .null, .null, .null, .null]))] sz)) 4 1054 (va_A [(h0, .inr (1, [.int 0, .int 0, .int 0, .int 0, .null, .null, .null, .null]))] sz) := by
  refine Met.ofW (cc := cX1_init) (maxL := 1) (ret := none) (by decide) rfl ?_
  intro p e s m args below meth c s₁ B hml hv
  obtain ⟨rfl, hsz, hP, hK⟩ := hv
  have hx := B.exec
  have hb := B.bytes
  have hr := B.returns
  have hts := atoms_spec (ws := xwm mI1) B.pre
  have hown : s.vm.findClass RX1 = some m.cls := findClass_of_methodNamed B.named
  have hin : meth.name = "<init>" := (name_of_methodNamed B.named B.method).1
  subst hsz
  have hD : va_D (va_A [(h0, .inr (1, [.int 0, .int 0, .int 0, .int 0, .null, .null, .null, .null]))] s.heap.size) [(h0, .inr (1, [.int 0, .int 0, .int 0, .int 0, .null, .null, .null, .null]))] := ct_one
  generalize hAe : va_A [(h0, .inr (1, [.int 0, .int 0, .int 0, .int 0, .null, .null, .null, .null]))] s.heap.size = A at hD ⊢
  have hA : ∀ q : Nat, s.heap.size ≤ q → A q := fun q h => by rw [← hAe]; exact Or.inr h
  have hS : va_S A s.heap s.heap [] := va_S.rf
  have hl := lv_entry ([.ref h0]) (n := 1) (Nat.le_of_ble_eq_true rfl)
  rw [lg_entry_eq]
  generalize (lg_sl ([.ref h0]) ++ List.replicate (1 - (lg_sl ([.ref h0])).length) Slot.unset).toArray = ls at hl ⊢
  have hl : lv_has ls 1 [(0, .ref h0)] := hl
  have e0 := lv_at hl 0 rfl
  refine lv_aload_n hx hb (show decode cX1_init 0 = .ok (.aload_n 0, 1) by decide +kernel) rfl e0 ?_
  refine W.objInit hx hb hown (hts _ (List.mem_cons_of_mem _ (tblG_m1 176 rfl rfl))) (hts _ (List.mem_cons_of_mem _ (tblG_m1 24 rfl rfl))) (hts _ (List.mem_cons_of_mem _ (tblG_m1 25 rfl rfl))) rfl (by rw [hml]; exact hl.1) rfl (show decode cX1_init 1 = .ok (.invokespecial 3, 3) by decide +kernel) (Nat.le_of_ble_eq_true rfl) (Nat.le_of_ble_eq_true rfl) ?_
  refine W.eq (g2 := F0 m 4 ls []) rfl ?_
  refine lv_aload_n hx hb (show decode cX1_init 4 = .ok (.aload_n 0, 1) by decide +kernel) rfl e0 ?_
  refine lv_iconst hx hb (n := 0) (v := 0) (show decode cX1_init 5 = .ok (.iconst 0, 1) by decide +kernel) (by decide) ?_
  refine va_put (D := D) (ref := RX1) (ci := 1) (v := .int 0) (ty := .int) (C := RX1) (T := TX1) (N := 8) hx hb hts (fun w hw => List.mem_cons_of_mem _ (iG1 w hw)) tyX1 tyX1_ok nmX1 hown hK hP hD hS 0 rfl rfl 0 (by decide) (hts _ (List.mem_cons_of_mem _ (tblG_m1 177 rfl rfl))) (fun _ h9 => h9) rfl (by decide +kernel) rfl rfl (Nat.le_of_ble_eq_true rfl) (show decode cX1_init 6 = .ok (.putfield 9, 3) by decide +kernel) (fun H locs hP hD hS => ?_)
  have hP : va_P D vwCl [(h0, .inr (1, [.int 0, .int 0, .int 0, .int 0, .null, .null, .null, .null]))] H := hP
  have hD : va_D A [(h0, .inr (1, [.int 0, .int 0, .int 0, .int 0, .null, .null, .null, .null]))] := hD
  refine lv_aload_n hx hb (show decode cX1_init 9 = .ok (.aload_n 0, 1) by decide +kernel) rfl e0 ?_
  refine lv_iconst hx hb (n := 0) (v := 0) (show decode cX1_init 10 = .ok (.iconst 0, 1) by decide +kernel) (by decide) ?_
  refine va_put (D := D) (ref := RX1) (ci := 1) (v := .int 0) (ty := .int) (C := RX1) (T := TX1) (N := 8) hx hb hts (fun w hw => List.mem_cons_of_mem _ (iG1 w hw)) tyX1 tyX1_ok nmX1 hown hK hP hD hS 0 rfl rfl 1 (by decide) (hts _ (List.mem_cons_of_mem _ (tblG_m1 179 rfl rfl))) (fun _ h9 => h9) rfl (by decide +kernel) rfl rfl (Nat.le_of_ble_eq_true rfl) (show decode cX1_init 11 = .ok (.putfield 15, 3) by decide +kernel) (fun H locs hP hD hS => ?_)
  have hP : va_P D vwCl [(h0, .inr (1, [.int 0, .int 0, .int 0, .int 0, .null, .null, .null, .null]))] H := hP
  have hD : va_D A [(h0, .inr (1, [.int 0, .int 0, .int 0, .int 0, .null, .null, .null, .null]))] := hD
  refine lv_aload_n hx hb (show decode cX1_init 14 = .ok (.aload_n 0, 1) by decide +kernel) rfl e0 ?_
  refine lv_iconst hx hb (n := 0) (v := 0) (show decode cX1_init 15 = .ok (.iconst 0, 1) by decide +kernel) (by decide) ?_
  refine va_put (D := D) (ref := RX1) (ci := 1) (v := .int 0) (ty := .int) (C := RX1) (T := TX1) (N := 8) hx hb hts (fun w hw => List.mem_cons_of_mem _ (iG1 w hw)) tyX1 tyX1_ok nmX1 hown hK hP hD hS 0 rfl rfl 2 (by decide) (hts _ (List.mem_cons_of_mem _ (tblG_m1 180 rfl rfl))) (fun _ h9 => h9) rfl (by decide +kernel) rfl rfl (Nat.le_of_ble_eq_true rfl) (show decode cX1_init 16 = .ok (.putfield 18, 3) by decide +kernel) (fun H locs hP hD hS => ?_)
  have hP : va_P D vwCl [(h0, .inr (1, [.int 0, .int 0, .int 0, .int 0, .null, .null, .null, .null]))] H := hP
  have hD : va_D A [(h0, .inr (1, [.int 0, .int 0, .int 0, .int 0, .null, .null, .null, .null]))] := hD
  refine lv_aload_n hx hb (show decode cX1_init 19 = .ok (.aload_n 0, 1) by decide +kernel) rfl e0 ?_
  refine lv_iconst hx hb (n := 0) (v := 0) (show decode cX1_init 20 = .ok (.iconst 0, 1) by decide +kernel) (by decide) ?_
  refine va_put (D := D) (ref := RX1) (ci := 1) (v := .int 0) (ty := .int) (C := RX1) (T := TX1) (N := 8) hx hb hts (fun w hw => List.mem_cons_of_mem _ (iG1 w hw)) tyX1 tyX1_ok nmX1 hown hK hP hD hS 0 rfl rfl 3 (by decide) (hts _ (List.mem_cons_of_mem _ (tblG_m1 182 rfl rfl))) (fun _ h9 => h9) rfl (by decide +kernel) rfl rfl (Nat.le_of_ble_eq_true rfl) (show decode cX1_init 21 = .ok (.putfield 21, 3) by decide +kernel) (fun H locs hP hD hS => ?_)
  have hP : va_P D vwCl [(h0, .inr (1, [.int 0, .int 0, .int 0, .int 0, .null, .null, .null, .null]))] H := hP
  have hD : va_D A [(h0, .inr (1, [.int 0, .int 0, .int 0, .int 0, .null, .null, .null, .null]))] := hD
  refine lv_aload_n hx hb (show decode cX1_init 24 = .ok (.aload_n 0, 1) by decide +kernel) rfl e0 ?_
  refine lv_bipush hx hb (v := 10) (show decode cX1_init 25 = .ok (.bipush 10, 2) by decide +kernel) (by decide) ?_
  refine ct_newa (ty := .int) (N' := 10) (t0 := 0) (a0 := (10, .inl fun _ => 0)) hx hb (hts _ (List.mem_cons_of_mem _ (tblG_m1 71 rfl rfl))) rfl hK rfl hP hD hS hA (fun _ => rfl) (by decide) (by decide) (by decide) (show 0 + 1 ≤ 4 by decide) (show 0 + 10 ≤ 1054 by decide) (show decode cX1_init 27 = .ok (.newarray .int, 2) by decide +kernel) (fun q27 H hP hD hS => ?_)
  have hP : va_P D vwCl [(h0, .inr (1, [.int 0, .int 0, .int 0, .int 0, .null, .null, .null, .null])), (q27, .inl (tc 0, 10, .inl fun _ => 0))] H := hP
  have hD : va_D A [(h0, .inr (1, [.int 0, .int 0, .int 0, .int 0, .null, .null, .null, .null])), (q27, .inl (tc 0, 10, .inl fun _ => 0))] := hD
  refine W.widen (k := 1) (n := 10) (by decide) (by decide) ?_
  refine va_putF (D := D) (ref := RX1) (ci := 1) (v := .ref q27) (ty := .array .int) (C := RX1) (T := TX1) (N := 8) hx hb hts (fun w hw => List.mem_cons_of_mem _ (iG1 w hw)) tyX1 tyX1_ok nmX1 hown hK hP hD hS 0 rfl rfl 4 (by decide) (hts _ (List.mem_cons_of_mem _ (tblG_m1 184 rfl rfl))) (fun _ h9 => h9) rfl hin rfl (by decide +kernel) rfl rfl (Nat.le_of_ble_eq_true rfl) (show decode cX1_init 29 = .ok (.putfield 24, 3) by decide +kernel) (fun H locs hP hD hS => ?_)
  have hP : va_P D vwCl [(h0, .inr (1, [.int 0, .int 0, .int 0, .int 0, .ref q27, .null, .null, .null])), (q27, .inl (tc 0, 10, .inl fun _ => 0))] H := hP
  have hD : va_D A [(h0, .inr (1, [.int 0, .int 0, .int 0, .int 0, .ref q27, .null, .null, .null])), (q27, .inl (tc 0, 10, .inl fun _ => 0))] := hD
  refine lv_aload_n hx hb (show decode cX1_init 32 = .ok (.aload_n 0, 1) by decide +kernel) rfl e0 ?_
  refine lv_bipush hx hb (v := 10) (show decode cX1_init 33 = .ok (.bipush 10, 2) by decide +kernel) (by decide) ?_
  refine ct_newa (ty := .int) (N' := 10) (t0 := 0) (a0 := (10, .inl fun _ => 0)) hx hb (hts _ (List.mem_cons_of_mem _ (tblG_m1 71 rfl rfl))) rfl hK rfl hP hD hS hA (fun _ => rfl) (by decide) (by decide) (by decide) (show 1 + 1 ≤ 4 by decide) (show 10 + 10 ≤ 1054 by decide) (show decode cX1_init 35 = .ok (.newarray .int, 2) by decide +kernel) (fun q35 H hP hD hS => ?_)
  have hP : va_P D vwCl [(h0, .inr (1, [.int 0, .int 0, .int 0, .int 0, .ref q27, .null, .null, .null])), (q27, .inl (tc 0, 10, .inl fun _ => 0)), (q35, .inl (tc 0, 10, .inl fun _ => 0))] H := hP
  have hD : va_D A [(h0, .inr (1, [.int 0, .int 0, .int 0, .int 0, .ref q27, .null, .null, .null])), (q27, .inl (tc 0, 10, .inl fun _ => 0)), (q35, .inl (tc 0, 10, .inl fun _ => 0))] := hD
  refine W.widen (k := 2) (n := 20) (by decide) (by decide) ?_
  refine va_putF (D := D) (ref := RX1) (ci := 1) (v := .ref q35) (ty := .array .int) (C := RX1) (T := TX1) (N := 8) hx hb hts (fun w hw => List.mem_cons_of_mem _ (iG1 w hw)) tyX1 tyX1_ok nmX1 hown hK hP hD hS 0 rfl rfl 5 (by decide) (hts _ (List.mem_cons_of_mem _ (tblG_m1 186 rfl rfl))) (fun _ h9 => h9) rfl hin rfl (by decide +kernel) rfl rfl (Nat.le_of_ble_eq_true rfl) (show decode cX1_init 37 = .ok (.putfield 28, 3) by decide +kernel) (fun H locs hP hD hS => ?_)
  have hP : va_P D vwCl [(h0, .inr (1, [.int 0, .int 0, .int 0, .int 0, .ref q27, .ref q35, .null, .null])), (q27, .inl (tc 0, 10, .inl fun _ => 0)), (q35, .inl (tc 0, 10, .inl fun _ => 0))] H := hP
  have hD : va_D A [(h0, .inr (1, [.int 0, .int 0, .int 0, .int 0, .ref q27, .ref q35, .null, .null])), (q27, .inl (tc 0, 10, .inl fun _ => 0)), (q35, .inl (tc 0, 10, .inl fun _ => 0))] := hD
  refine lv_aload_n hx hb (show decode cX1_init 40 = .ok (.aload_n 0, 1) by decide +kernel) rfl e0 ?_
  refine lv_bipush hx hb (v := 10) (show decode cX1_init 41 = .ok (.bipush 10, 2) by decide +kernel) (by decide) ?_
  refine ct_newa (ty := .int) (N' := 10) (t0 := 0) (a0 := (10, .inl fun _ => 0)) hx hb (hts _ (List.mem_cons_of_mem _ (tblG_m1 71 rfl rfl))) rfl hK rfl hP hD hS hA (fun _ => rfl) (by decide) (by decide) (by decide) (show 2 + 1 ≤ 4 by decide) (show 20 + 10 ≤ 1054 by decide) (show decode cX1_init 43 = .ok (.newarray .int, 2) by decide +kernel) (fun q43 H hP hD hS => ?_)
  have hP : va_P D vwCl [(h0, .inr (1, [.int 0, .int 0, .int 0, .int 0, .ref q27, .ref q35, .null, .null])), (q27, .inl (tc 0, 10, .inl fun _ => 0)), (q35, .inl (tc 0, 10, .inl fun _ => 0)), (q43, .inl (tc 0, 10, .inl fun _ => 0))] H := hP
  have hD : va_D A [(h0, .inr (1, [.int 0, .int 0, .int 0, .int 0, .ref q27, .ref q35, .null, .null])), (q27, .inl (tc 0, 10, .inl fun _ => 0)), (q35, .inl (tc 0, 10, .inl fun _ => 0)), (q43, .inl (tc 0, 10, .inl fun _ => 0))] := hD
  refine W.widen (k := 3) (n := 30) (by decide) (by decide) ?_
  refine va_putF (D := D) (ref := RX1) (ci := 1) (v := .ref q43) (ty := .array .int) (C := RX1) (T := TX1) (N := 8) hx hb hts (fun w hw => List.mem_cons_of_mem _ (iG1 w hw)) tyX1 tyX1_ok nmX1 hown hK hP hD hS 0 rfl rfl 6 (by decide) (hts _ (List.mem_cons_of_mem _ (tblG_m1 188 rfl rfl))) (fun _ h9 => h9) rfl hin rfl (by decide +kernel) rfl rfl (Nat.le_of_ble_eq_true rfl) (show decode cX1_init 45 = .ok (.putfield 31, 3) by decide +kernel) (fun H locs hP hD hS => ?_)
  have hP : va_P D vwCl [(h0, .inr (1, [.int 0, .int 0, .int 0, .int 0, .ref q27, .ref q35, .ref q43, .null])), (q27, .inl (tc 0, 10, .inl fun _ => 0)), (q35, .inl (tc 0, 10, .inl fun _ => 0)), (q43, .inl (tc 0, 10, .inl fun _ => 0))] H := hP
  have hD : va_D A [(h0, .inr (1, [.int 0, .int 0, .int 0, .int 0, .ref q27, .ref q35, .ref q43, .null])), (q27, .inl (tc 0, 10, .inl fun _ => 0)), (q35, .inl (tc 0, 10, .inl fun _ => 0)), (q43, .inl (tc 0, 10, .inl fun _ => 0))] := hD
  refine lv_aload_n hx hb (show decode cX1_init 48 = .ok (.aload_n 0, 1) by decide +kernel) rfl e0 ?_
  refine lv_sipush hx hb (v := 1024) (show decode cX1_init 49 = .ok (.sipush 1024, 3) by decide +kernel) (by decide) ?_
  refine ct_newa (ty := .int) (N' := 1024) (t0 := 0) (a0 := (1024, .inl fun _ => 0)) hx hb (hts _ (List.mem_cons_of_mem _ (tblG_m1 71 rfl rfl))) rfl hK rfl hP hD hS hA (fun _ => rfl) (by decide) (by decide) (by decide) (show 3 + 1 ≤ 4 by decide) (show 30 + 1024 ≤ 1054 by decide) (show decode cX1_init 52 = .ok (.newarray .int, 2) by decide +kernel) (fun q52 H hP hD hS => ?_)
  have hP : va_P D vwCl [(h0, .inr (1, [.int 0, .int 0, .int 0, .int 0, .ref q27, .ref q35, .ref q43, .null])), (q27, .inl (tc 0, 10, .inl fun _ => 0)), (q35, .inl (tc 0, 10, .inl fun _ => 0)), (q43, .inl (tc 0, 10, .inl fun _ => 0)), (q52, .inl (tc 0, 1024, .inl fun _ => 0))] H := hP
  have hD : va_D A [(h0, .inr (1, [.int 0, .int 0, .int 0, .int 0, .ref q27, .ref q35, .ref q43, .null])), (q27, .inl (tc 0, 10, .inl fun _ => 0)), (q35, .inl (tc 0, 10, .inl fun _ => 0)), (q43, .inl (tc 0, 10, .inl fun _ => 0)), (q52, .inl (tc 0, 1024, .inl fun _ => 0))] := hD
  refine W.widen (k := 4) (n := 1054) (by decide) (by decide) ?_
  refine va_putF (D := D) (ref := RX1) (ci := 1) (v := .ref q52) (ty := .array .int) (C := RX1) (T := TX1) (N := 8) hx hb hts (fun w hw => List.mem_cons_of_mem _ (iG1 w hw)) tyX1 tyX1_ok nmX1 hown hK hP hD hS 0 rfl rfl 7 (by decide) (hts _ (List.mem_cons_of_mem _ (tblG_m1 190 rfl rfl))) (fun _ h9 => h9) rfl hin rfl (by decide +kernel) rfl rfl (Nat.le_of_ble_eq_true rfl) (show decode cX1_init 54 = .ok (.putfield 34, 3) by decide +kernel) (fun H locs hP hD hS => ?_)
  have hP : va_P D vwCl [(h0, .inr (1, [.int 0, .int 0, .int 0, .int 0, .ref q27, .ref q35, .ref q43, .ref q52])), (q27, .inl (tc 0, 10, .inl fun _ => 0)), (q35, .inl (tc 0, 10, .inl fun _ => 0)), (q43, .inl (tc 0, 10, .inl fun _ => 0)), (q52, .inl (tc 0, 1024, .inl fun _ => 0))] H := hP
  have hD : va_D A [(h0, .inr (1, [.int 0, .int 0, .int 0, .int 0, .ref q27, .ref q35, .ref q43, .ref q52])), (q27, .inl (tc 0, 10, .inl fun _ => 0)), (q35, .inl (tc 0, 10, .inl fun _ => 0)), (q43, .inl (tc 0, 10, .inl fun _ => 0)), (q52, .inl (tc 0, 1024, .inl fun _ => 0))] := hD
  exact W.vret hx hb hr (fun t ht hW => ⟨⟨fun k => [0, q27, q35, q43, q52].getD k 0, rfl, trivial, by rw [ht]; exact hP, hD⟩, hS.F ht⟩) hS.2.2 (show decode cX1_init 57 = .ok (.return_, 1) by decide +kernel)
def mI5 : xM := (yX5_init, prog_7_method_1_code, 1, none)
def wI5 (tc : Nat → ClassId) (h0 : Nat) (u : Nat → Nat) : va_W := [(h0, .inr (5, [.ref (u 1), .int 0, .int 0, .int (-1), .int 0, .ref (u 2), .ref (u 3), .ref (u 4), .ref (u 5)])), ((u 1), .inl (tc 0, 120, .inl fun _ => 0)), ((u 2), .inl (tc 0, 20, .inl fun _ => 0)), ((u 3), .inl (tc 0, 20, .inl fun _ => 0)), ((u 4), .inl (tc 0, 20, .inl fun _ => 0)), ((u 5), .inl (tc 0, 20, .inl fun _ => 0))]
set_option maxHeartbeats 4000000 in
set_option maxRecDepth 20000 in
theorem met_i5 (l : Launch) (D : va_G) (tc : Nat → ClassId) (h0 sz : Nat) : Met l yX5_init (xwm mI5) { frames := 1, cells := 5, slots := 200, locals := 20 } (ctP D tc h0 (.inr (5, [.null, .int 0, .int 0, .int 0, .int 0, .null, .null, .null, .null])) sz) (va_Qv (fun _ : Nat → Nat => True) (fun u t => va_P D vwCl (wI5 tc h0 u) t.heap ∧ va_D (va_A [(h0, .inr (5, [.null, .int 0, .int 0, .int 0, .int 0, .null, .null, .null, .null]))] sz) (wI5 tc h0 u)) (va_A [(h0, .inr (5, [.null, .int 0, .int 0, .int 0, .int 0, .null, .null, .null, .null]))] sz)) 5 200 (va_A [(h0, .inr (5, [.null, .int 0, .int 0, .int 0, .int 0, .null, .null, .null, .null]))] sz) := by
  refine Met.ofW (cc := cX5_init) (maxL := 1) (ret := none) (by decide) rfl ?_
  intro p e s m args below meth c s₁ B hml hv
  obtain ⟨rfl, hsz, hP, hK⟩ := hv
  have hx := B.exec
  have hb := B.bytes
  have hr := B.returns
  have hts := atoms_spec (ws := xwm mI5) B.pre
  have hown : s.vm.findClass RX5 = some m.cls := findClass_of_methodNamed B.named
  have hin : meth.name = "<init>" := (name_of_methodNamed B.named B.method).1
  subst hsz
  have hD : va_D (va_A [(h0, .inr (5, [.null, .int 0, .int 0, .int 0, .int 0, .null, .null, .null, .null]))] s.heap.size) [(h0, .inr (5, [.null, .int 0, .int 0, .int 0, .int 0, .null, .null, .null, .null]))] := ct_one
  generalize hAe : va_A [(h0, .inr (5, [.null, .int 0, .int 0, .int 0, .int 0, .null, .null, .null, .null]))] s.heap.size = A at hD ⊢
  have hA : ∀ q : Nat, s.heap.size ≤ q → A q := fun q h => by rw [← hAe]; exact Or.inr h
  have hS : va_S A s.heap s.heap [] := va_S.rf
  have hl := lv_entry ([.ref h0]) (n := 1) (Nat.le_of_ble_eq_true rfl)
  rw [lg_entry_eq]
  generalize (lg_sl ([.ref h0]) ++ List.replicate (1 - (lg_sl ([.ref h0])).length) Slot.unset).toArray = ls at hl ⊢
  have hl : lv_has ls 1 [(0, .ref h0)] := hl
  have e0 := lv_at hl 0 rfl
  refine lv_aload_n hx hb (show decode cX5_init 0 = .ok (.aload_n 0, 1) by decide +kernel) rfl e0 ?_
  refine W.objInit hx hb hown (hts _ (List.mem_cons_of_mem _ (tblG_m1 213 rfl rfl))) (hts _ (List.mem_cons_of_mem _ (tblG_m1 24 rfl rfl))) (hts _ (List.mem_cons_of_mem _ (tblG_m1 25 rfl rfl))) rfl (by rw [hml]; exact hl.1) rfl (show decode cX5_init 1 = .ok (.invokespecial 3, 3) by decide +kernel) (Nat.le_of_ble_eq_true rfl) (Nat.le_of_ble_eq_true rfl) ?_
  refine W.eq (g2 := F0 m 4 ls []) rfl ?_
  refine lv_aload_n hx hb (show decode cX5_init 4 = .ok (.aload_n 0, 1) by decide +kernel) rfl e0 ?_
  refine lv_bipush hx hb (v := 120) (show decode cX5_init 5 = .ok (.bipush 120, 2) by decide +kernel) (by decide) ?_
  refine ct_newa (ty := .int) (N' := 120) (t0 := 0) (a0 := (120, .inl fun _ => 0)) hx hb (hts _ (List.mem_cons_of_mem _ (tblG_m1 71 rfl rfl))) rfl hK rfl hP hD hS hA (fun _ => rfl) (by decide) (by decide) (by decide) (show 0 + 1 ≤ 5 by decide) (show 0 + 120 ≤ 200 by decide) (show decode cX5_init 7 = .ok (.newarray .int, 2) by decide +kernel) (fun q7 H hP hD hS => ?_)
  have hP : va_P D vwCl [(h0, .inr (5, [.null, .int 0, .int 0, .int 0, .int 0, .null, .null, .null, .null])), (q7, .inl (tc 0, 120, .inl fun _ => 0))] H := hP
  have hD : va_D A [(h0, .inr (5, [.null, .int 0, .int 0, .int 0, .int 0, .null, .null, .null, .null])), (q7, .inl (tc 0, 120, .inl fun _ => 0))] := hD
  refine W.widen (k := 1) (n := 120) (by decide) (by decide) ?_
  refine va_putF (D := D) (ref := RX5) (ci := 5) (v := .ref q7) (ty := .array .int) (C := RX5) (T := TX5) (N := 9) hx hb hts (fun w hw => List.mem_cons_of_mem _ (iG5 w hw)) tyX5 tyX5_ok nmX5 hown hK hP hD hS 0 rfl rfl 0 (by decide) (hts _ (List.mem_cons_of_mem _ (tblG_m1 214 rfl rfl))) (fun _ h9 => h9) rfl hin rfl (by decide +kernel) rfl rfl (Nat.le_of_ble_eq_true rfl) (show decode cX5_init 9 = .ok (.putfield 9, 3) by decide +kernel) (fun H locs hP hD hS => ?_)
  have hP : va_P D vwCl [(h0, .inr (5, [.ref q7, .int 0, .int 0, .int 0, .int 0, .null, .null, .null, .null])), (q7, .inl (tc 0, 120, .inl fun _ => 0))] H := hP
  have hD : va_D A [(h0, .inr (5, [.ref q7, .int 0, .int 0, .int 0, .int 0, .null, .null, .null, .null])), (q7, .inl (tc 0, 120, .inl fun _ => 0))] := hD
  refine lv_aload_n hx hb (show decode cX5_init 12 = .ok (.aload_n 0, 1) by decide +kernel) rfl e0 ?_
  refine lv_iconst hx hb (n := 0) (v := 0) (show decode cX5_init 13 = .ok (.iconst 0, 1) by decide +kernel) (by decide) ?_
  refine va_put (D := D) (ref := RX5) (ci := 5) (v := .int 0) (ty := .int) (C := RX5) (T := TX5) (N := 9) hx hb hts (fun w hw => List.mem_cons_of_mem _ (iG5 w hw)) tyX5 tyX5_ok nmX5 hown hK hP hD hS 0 rfl rfl 1 (by decide) (hts _ (List.mem_cons_of_mem _ (tblG_m1 215 rfl rfl))) (fun _ h9 => h9) rfl (by decide +kernel) rfl rfl (Nat.le_of_ble_eq_true rfl) (show decode cX5_init 14 = .ok (.putfield 15, 3) by decide +kernel) (fun H locs hP hD hS => ?_)
  have hP : va_P D vwCl [(h0, .inr (5, [.ref q7, .int 0, .int 0, .int 0, .int 0, .null, .null, .null, .null])), (q7, .inl (tc 0, 120, .inl fun _ => 0))] H := hP
  have hD : va_D A [(h0, .inr (5, [.ref q7, .int 0, .int 0, .int 0, .int 0, .null, .null, .null, .null])), (q7, .inl (tc 0, 120, .inl fun _ => 0))] := hD
  refine lv_aload_n hx hb (show decode cX5_init 17 = .ok (.aload_n 0, 1) by decide +kernel) rfl e0 ?_
  refine lv_iconst hx hb (n := 0) (v := 0) (show decode cX5_init 18 = .ok (.iconst 0, 1) by decide +kernel) (by decide) ?_
  refine va_put (D := D) (ref := RX5) (ci := 5) (v := .int 0) (ty := .int) (C := RX5) (T := TX5) (N := 9) hx hb hts (fun w hw => List.mem_cons_of_mem _ (iG5 w hw)) tyX5 tyX5_ok nmX5 hown hK hP hD hS 0 rfl rfl 2 (by decide) (hts _ (List.mem_cons_of_mem _ (tblG_m1 217 rfl rfl))) (fun _ h9 => h9) rfl (by decide +kernel) rfl rfl (Nat.le_of_ble_eq_true rfl) (show decode cX5_init 19 = .ok (.putfield 19, 3) by decide +kernel) (fun H locs hP hD hS => ?_)
  have hP : va_P D vwCl [(h0, .inr (5, [.ref q7, .int 0, .int 0, .int 0, .int 0, .null, .null, .null, .null])), (q7, .inl (tc 0, 120, .inl fun _ => 0))] H := hP
  have hD : va_D A [(h0, .inr (5, [.ref q7, .int 0, .int 0, .int 0, .int 0, .null, .null, .null, .null])), (q7, .inl (tc 0, 120, .inl fun _ => 0))] := hD
  refine lv_aload_n hx hb (show decode cX5_init 22 = .ok (.aload_n 0, 1) by decide +kernel) rfl e0 ?_
  refine lv_iconst hx hb (n := (-1)) (v := (-1)) (show decode cX5_init 23 = .ok (.iconst (-1), 1) by decide +kernel) (by decide) ?_
  refine va_put (D := D) (ref := RX5) (ci := 5) (v := .int (-1)) (ty := .int) (C := RX5) (T := TX5) (N := 9) hx hb hts (fun w hw => List.mem_cons_of_mem _ (iG5 w hw)) tyX5 tyX5_ok nmX5 hown hK hP hD hS 0 rfl rfl 3 (by decide) (hts _ (List.mem_cons_of_mem _ (tblG_m1 218 rfl rfl))) (fun _ h9 => h9) rfl (by decide +kernel) rfl rfl (Nat.le_of_ble_eq_true rfl) (show decode cX5_init 24 = .ok (.putfield 22, 3) by decide +kernel) (fun H locs hP hD hS => ?_)
  have hP : va_P D vwCl [(h0, .inr (5, [.ref q7, .int 0, .int 0, .int (-1), .int 0, .null, .null, .null, .null])), (q7, .inl (tc 0, 120, .inl fun _ => 0))] H := hP
  have hD : va_D A [(h0, .inr (5, [.ref q7, .int 0, .int 0, .int (-1), .int 0, .null, .null, .null, .null])), (q7, .inl (tc 0, 120, .inl fun _ => 0))] := hD
  refine lv_aload_n hx hb (show decode cX5_init 27 = .ok (.aload_n 0, 1) by decide +kernel) rfl e0 ?_
  refine lv_iconst hx hb (n := 0) (v := 0) (show decode cX5_init 28 = .ok (.iconst 0, 1) by decide +kernel) (by decide) ?_
  refine va_put (D := D) (ref := RX5) (ci := 5) (v := .int 0) (ty := .int) (C := RX5) (T := TX5) (N := 9) hx hb hts (fun w hw => List.mem_cons_of_mem _ (iG5 w hw)) tyX5 tyX5_ok nmX5 hown hK hP hD hS 0 rfl rfl 4 (by decide) (hts _ (List.mem_cons_of_mem _ (tblG_m1 220 rfl rfl))) (fun _ h9 => h9) rfl (by decide +kernel) rfl rfl (Nat.le_of_ble_eq_true rfl) (show decode cX5_init 29 = .ok (.putfield 25, 3) by decide +kernel) (fun H locs hP hD hS => ?_)
  have hP : va_P D vwCl [(h0, .inr (5, [.ref q7, .int 0, .int 0, .int (-1), .int 0, .null, .null, .null, .null])), (q7, .inl (tc 0, 120, .inl fun _ => 0))] H := hP
  have hD : va_D A [(h0, .inr (5, [.ref q7, .int 0, .int 0, .int (-1), .int 0, .null, .null, .null, .null])), (q7, .inl (tc 0, 120, .inl fun _ => 0))] := hD
  refine lv_aload_n hx hb (show decode cX5_init 32 = .ok (.aload_n 0, 1) by decide +kernel) rfl e0 ?_
  refine lv_bipush hx hb (v := 20) (show decode cX5_init 33 = .ok (.bipush 20, 2) by decide +kernel) (by decide) ?_
  refine ct_newa (ty := .int) (N' := 20) (t0 := 0) (a0 := (20, .inl fun _ => 0)) hx hb (hts _ (List.mem_cons_of_mem _ (tblG_m1 71 rfl rfl))) rfl hK rfl hP hD hS hA (fun _ => rfl) (by decide) (by decide) (by decide) (show 1 + 1 ≤ 5 by decide) (show 120 + 20 ≤ 200 by decide) (show decode cX5_init 35 = .ok (.newarray .int, 2) by decide +kernel) (fun q35 H hP hD hS => ?_)
  have hP : va_P D vwCl [(h0, .inr (5, [.ref q7, .int 0, .int 0, .int (-1), .int 0, .null, .null, .null, .null])), (q7, .inl (tc 0, 120, .inl fun _ => 0)), (q35, .inl (tc 0, 20, .inl fun _ => 0))] H := hP
  have hD : va_D A [(h0, .inr (5, [.ref q7, .int 0, .int 0, .int (-1), .int 0, .null, .null, .null, .null])), (q7, .inl (tc 0, 120, .inl fun _ => 0)), (q35, .inl (tc 0, 20, .inl fun _ => 0))] := hD
  refine W.widen (k := 2) (n := 140) (by decide) (by decide) ?_
  refine va_putF (D := D) (ref := RX5) (ci := 5) (v := .ref q35) (ty := .array .int) (C := RX5) (T := TX5) (N := 9) hx hb hts (fun w hw => List.mem_cons_of_mem _ (iG5 w hw)) tyX5 tyX5_ok nmX5 hown hK hP hD hS 0 rfl rfl 5 (by decide) (hts _ (List.mem_cons_of_mem _ (tblG_m1 222 rfl rfl))) (fun _ h9 => h9) rfl hin rfl (by decide +kernel) rfl rfl (Nat.le_of_ble_eq_true rfl) (show decode cX5_init 37 = .ok (.putfield 28, 3) by decide +kernel) (fun H locs hP hD hS => ?_)
  have hP : va_P D vwCl [(h0, .inr (5, [.ref q7, .int 0, .int 0, .int (-1), .int 0, .ref q35, .null, .null, .null])), (q7, .inl (tc 0, 120, .inl fun _ => 0)), (q35, .inl (tc 0, 20, .inl fun _ => 0))] H := hP
  have hD : va_D A [(h0, .inr (5, [.ref q7, .int 0, .int 0, .int (-1), .int 0, .ref q35, .null, .null, .null])), (q7, .inl (tc 0, 120, .inl fun _ => 0)), (q35, .inl (tc 0, 20, .inl fun _ => 0))] := hD
  refine lv_aload_n hx hb (show decode cX5_init 40 = .ok (.aload_n 0, 1) by decide +kernel) rfl e0 ?_
  refine lv_bipush hx hb (v := 20) (show decode cX5_init 41 = .ok (.bipush 20, 2) by decide +kernel) (by decide) ?_
  refine ct_newa (ty := .int) (N' := 20) (t0 := 0) (a0 := (20, .inl fun _ => 0)) hx hb (hts _ (List.mem_cons_of_mem _ (tblG_m1 71 rfl rfl))) rfl hK rfl hP hD hS hA (fun _ => rfl) (by decide) (by decide) (by decide) (show 2 + 1 ≤ 5 by decide) (show 140 + 20 ≤ 200 by decide) (show decode cX5_init 43 = .ok (.newarray .int, 2) by decide +kernel) (fun q43 H hP hD hS => ?_)
  have hP : va_P D vwCl [(h0, .inr (5, [.ref q7, .int 0, .int 0, .int (-1), .int 0, .ref q35, .null, .null, .null])), (q7, .inl (tc 0, 120, .inl fun _ => 0)), (q35, .inl (tc 0, 20, .inl fun _ => 0)), (q43, .inl (tc 0, 20, .inl fun _ => 0))] H := hP
  have hD : va_D A [(h0, .inr (5, [.ref q7, .int 0, .int 0, .int (-1), .int 0, .ref q35, .null, .null, .null])), (q7, .inl (tc 0, 120, .inl fun _ => 0)), (q35, .inl (tc 0, 20, .inl fun _ => 0)), (q43, .inl (tc 0, 20, .inl fun _ => 0))] := hD
  refine W.widen (k := 3) (n := 160) (by decide) (by decide) ?_
  refine va_putF (D := D) (ref := RX5) (ci := 5) (v := .ref q43) (ty := .array .int) (C := RX5) (T := TX5) (N := 9) hx hb hts (fun w hw => List.mem_cons_of_mem _ (iG5 w hw)) tyX5 tyX5_ok nmX5 hown hK hP hD hS 0 rfl rfl 6 (by decide) (hts _ (List.mem_cons_of_mem _ (tblG_m1 224 rfl rfl))) (fun _ h9 => h9) rfl hin rfl (by decide +kernel) rfl rfl (Nat.le_of_ble_eq_true rfl) (show decode cX5_init 45 = .ok (.putfield 31, 3) by decide +kernel) (fun H locs hP hD hS => ?_)
  have hP : va_P D vwCl [(h0, .inr (5, [.ref q7, .int 0, .int 0, .int (-1), .int 0, .ref q35, .ref q43, .null, .null])), (q7, .inl (tc 0, 120, .inl fun _ => 0)), (q35, .inl (tc 0, 20, .inl fun _ => 0)), (q43, .inl (tc 0, 20, .inl fun _ => 0))] H := hP
  have hD : va_D A [(h0, .inr (5, [.ref q7, .int 0, .int 0, .int (-1), .int 0, .ref q35, .ref q43, .null, .null])), (q7, .inl (tc 0, 120, .inl fun _ => 0)), (q35, .inl (tc 0, 20, .inl fun _ => 0)), (q43, .inl (tc 0, 20, .inl fun _ => 0))] := hD
  refine lv_aload_n hx hb (show decode cX5_init 48 = .ok (.aload_n 0, 1) by decide +kernel) rfl e0 ?_
  refine lv_bipush hx hb (v := 20) (show decode cX5_init 49 = .ok (.bipush 20, 2) by decide +kernel) (by decide) ?_
  refine ct_newa (ty := .int) (N' := 20) (t0 := 0) (a0 := (20, .inl fun _ => 0)) hx hb (hts _ (List.mem_cons_of_mem _ (tblG_m1 71 rfl rfl))) rfl hK rfl hP hD hS hA (fun _ => rfl) (by decide) (by decide) (by decide) (show 3 + 1 ≤ 5 by decide) (show 160 + 20 ≤ 200 by decide) (show decode cX5_init 51 = .ok (.newarray .int, 2) by decide +kernel) (fun q51 H hP hD hS => ?_)
  have hP : va_P D vwCl [(h0, .inr (5, [.ref q7, .int 0, .int 0, .int (-1), .int 0, .ref q35, .ref q43, .null, .null])), (q7, .inl (tc 0, 120, .inl fun _ => 0)), (q35, .inl (tc 0, 20, .inl fun _ => 0)), (q43, .inl (tc 0, 20, .inl fun _ => 0)), (q51, .inl (tc 0, 20, .inl fun _ => 0))] H := hP
  have hD : va_D A [(h0, .inr (5, [.ref q7, .int 0, .int 0, .int (-1), .int 0, .ref q35, .ref q43, .null, .null])), (q7, .inl (tc 0, 120, .inl fun _ => 0)), (q35, .inl (tc 0, 20, .inl fun _ => 0)), (q43, .inl (tc 0, 20, .inl fun _ => 0)), (q51, .inl (tc 0, 20, .inl fun _ => 0))] := hD
  refine W.widen (k := 4) (n := 180) (by decide) (by decide) ?_
  refine va_putF (D := D) (ref := RX5) (ci := 5) (v := .ref q51) (ty := .array .int) (C := RX5) (T := TX5) (N := 9) hx hb hts (fun w hw => List.mem_cons_of_mem _ (iG5 w hw)) tyX5 tyX5_ok nmX5 hown hK hP hD hS 0 rfl rfl 7 (by decide) (hts _ (List.mem_cons_of_mem _ (tblG_m1 226 rfl rfl))) (fun _ h9 => h9) rfl hin rfl (by decide +kernel) rfl rfl (Nat.le_of_ble_eq_true rfl) (show decode cX5_init 53 = .ok (.putfield 34, 3) by decide +kernel) (fun H locs hP hD hS => ?_)
  have hP : va_P D vwCl [(h0, .inr (5, [.ref q7, .int 0, .int 0, .int (-1), .int 0, .ref q35, .ref q43, .ref q51, .null])), (q7, .inl (tc 0, 120, .inl fun _ => 0)), (q35, .inl (tc 0, 20, .inl fun _ => 0)), (q43, .inl (tc 0, 20, .inl fun _ => 0)), (q51, .inl (tc 0, 20, .inl fun _ => 0))] H := hP
  have hD : va_D A [(h0, .inr (5, [.ref q7, .int 0, .int 0, .int (-1), .int 0, .ref q35, .ref q43, .ref q51, .null])), (q7, .inl (tc 0, 120, .inl fun _ => 0)), (q35, .inl (tc 0, 20, .inl fun _ => 0)), (q43, .inl (tc 0, 20, .inl fun _ => 0)), (q51, .inl (tc 0, 20, .inl fun _ => 0))] := hD
  refine lv_aload_n hx hb (show decode cX5_init 56 = .ok (.aload_n 0, 1) by decide +kernel) rfl e0 ?_
  refine lv_bipush hx hb (v := 20) (show decode cX5_init 57 = .ok (.bipush 20, 2) by decide +kernel) (by decide) ?_
  refine ct_newa (ty := .int) (N' := 20) (t0 := 0) (a0 := (20, .inl fun _ => 0)) hx hb (hts _ (List.mem_cons_of_mem _ (tblG_m1 71 rfl rfl))) rfl hK rfl hP hD hS hA (fun _ => rfl) (by decide) (by decide) (by decide) (show 4 + 1 ≤ 5 by decide) (show 180 + 20 ≤ 200 by decide) (show decode cX5_init 59 = .ok (.newarray .int, 2) by decide +kernel) (fun q59 H hP hD hS => ?_)
  have hP : va_P D vwCl [(h0, .inr (5, [.ref q7, .int 0, .int 0, .int (-1), .int 0, .ref q35, .ref q43, .ref q51, .null])), (q7, .inl (tc 0, 120, .inl fun _ => 0)), (q35, .inl (tc 0, 20, .inl fun _ => 0)), (q43, .inl (tc 0, 20, .inl fun _ => 0)), (q51, .inl (tc 0, 20, .inl fun _ => 0)), (q59, .inl (tc 0, 20, .inl fun _ => 0))] H := hP
  have hD : va_D A [(h0, .inr (5, [.ref q7, .int 0, .int 0, .int (-1), .int 0, .ref q35, .ref q43, .ref q51, .null])), (q7, .inl (tc 0, 120, .inl fun _ => 0)), (q35, .inl (tc 0, 20, .inl fun _ => 0)), (q43, .inl (tc 0, 20, .inl fun _ => 0)), (q51, .inl (tc 0, 20, .inl fun _ => 0)), (q59, .inl (tc 0, 20, .inl fun _ => 0))] := hD
  refine W.widen (k := 5) (n := 200) (by decide) (by decide) ?_
  refine va_putF (D := D) (ref := RX5) (ci := 5) (v := .ref q59) (ty := .array .int) (C := RX5) (T := TX5) (N := 9) hx hb hts (fun w hw => List.mem_cons_of_mem _ (iG5 w hw)) tyX5 tyX5_ok nmX5 hown hK hP hD hS 0 rfl rfl 8 (by decide) (hts _ (List.mem_cons_of_mem _ (tblG_m1 228 rfl rfl))) (fun _ h9 => h9) rfl hin rfl (by decide +kernel) rfl rfl (Nat.le_of_ble_eq_true rfl) (show decode cX5_init 61 = .ok (.putfield 37, 3) by decide +kernel) (fun H locs hP hD hS => ?_)
  have hP : va_P D vwCl [(h0, .inr (5, [.ref q7, .int 0, .int 0, .int (-1), .int 0, .ref q35, .ref q43, .ref q51, .ref q59])), (q7, .inl (tc 0, 120, .inl fun _ => 0)), (q35, .inl (tc 0, 20, .inl fun _ => 0)), (q43, .inl (tc 0, 20, .inl fun _ => 0)), (q51, .inl (tc 0, 20, .inl fun _ => 0)), (q59, .inl (tc 0, 20, .inl fun _ => 0))] H := hP
  have hD : va_D A [(h0, .inr (5, [.ref q7, .int 0, .int 0, .int (-1), .int 0, .ref q35, .ref q43, .ref q51, .ref q59])), (q7, .inl (tc 0, 120, .inl fun _ => 0)), (q35, .inl (tc 0, 20, .inl fun _ => 0)), (q43, .inl (tc 0, 20, .inl fun _ => 0)), (q51, .inl (tc 0, 20, .inl fun _ => 0)), (q59, .inl (tc 0, 20, .inl fun _ => 0))] := hD
  exact W.vret hx hb hr (fun t ht hW => ⟨⟨fun k => [0, q7, q35, q43, q51, q59].getD k 0, rfl, trivial, by rw [ht]; exact hP, hD⟩, hS.F ht⟩) hS.2.2 (show decode cX5_init 64 = .ok (.return_, 1) by decide +kernel)
def mI4 : xM := (yX4_init, prog_6_method_1_code, 1, none)
def wI4 (tc : Nat → ClassId) (h0 : Nat) (u : Nat → Nat) : va_W := [(h0, .inr (4, [.ref (u 1), .ref (u 2)])), ((u 1), .inl (tc 0, 4, .inl (upd (upd (upd (upd (fun _ => 0) 0 (-1)) 1 (-1)) 2 (-1)) 3 (-1)))), ((u 2), .inl (tc 1, 120, .inr (.inl fun _ => 0)))]
set_option maxHeartbeats 4000000 in
set_option maxRecDepth 20000 in
theorem met_i4 (l : Launch) (D : va_G) (tc : Nat → ClassId) (h0 sz : Nat) : Met l yX4_init (xwm mI4) { frames := 1, cells := 2, slots := 124, locals := 20 } (ctP D tc h0 (.inr (4, [.null, .null])) sz) (va_Qv (fun _ : Nat → Nat => True) (fun u t => va_P D vwCl (wI4 tc h0 u) t.heap ∧ va_D (va_A [(h0, .inr (4, [.null, .null]))] sz) (wI4 tc h0 u)) (va_A [(h0, .inr (4, [.null, .null]))] sz)) 2 124 (va_A [(h0, .inr (4, [.null, .null]))] sz) := by
  refine Met.ofW (cc := cX4_init) (maxL := 1) (ret := none) (by decide) rfl ?_
  intro p e s m args below meth c s₁ B hml hv
  obtain ⟨rfl, hsz, hP, hK⟩ := hv
  have hx := B.exec
  have hb := B.bytes
  have hr := B.returns
  have hts := atoms_spec (ws := xwm mI4) B.pre
  have hown : s.vm.findClass RX4 = some m.cls := findClass_of_methodNamed B.named
  have hin : meth.name = "<init>" := (name_of_methodNamed B.named B.method).1
  subst hsz
  have hD : va_D (va_A [(h0, .inr (4, [.null, .null]))] s.heap.size) [(h0, .inr (4, [.null, .null]))] := ct_one
  generalize hAe : va_A [(h0, .inr (4, [.null, .null]))] s.heap.size = A at hD ⊢
  have hA : ∀ q : Nat, s.heap.size ≤ q → A q := fun q h => by rw [← hAe]; exact Or.inr h
  have hS : va_S A s.heap s.heap [] := va_S.rf
  have hl := lv_entry ([.ref h0]) (n := 1) (Nat.le_of_ble_eq_true rfl)
  rw [lg_entry_eq]
  generalize (lg_sl ([.ref h0]) ++ List.replicate (1 - (lg_sl ([.ref h0])).length) Slot.unset).toArray = ls at hl ⊢
  have hl : lv_has ls 1 [(0, .ref h0)] := hl
  have e0 := lv_at hl 0 rfl
  refine lv_aload_n hx hb (show decode cX4_init 0 = .ok (.aload_n 0, 1) by decide +kernel) rfl e0 ?_
  refine W.objInit hx hb hown (hts _ (List.mem_cons_of_mem _ (tblG_m2 14 rfl rfl))) (hts _ (List.mem_cons_of_mem _ (tblG_m1 24 rfl rfl))) (hts _ (List.mem_cons_of_mem _ (tblG_m1 25 rfl rfl))) rfl (by rw [hml]; exact hl.1) rfl (show decode cX4_init 1 = .ok (.invokespecial 3, 3) by decide +kernel) (Nat.le_of_ble_eq_true rfl) (Nat.le_of_ble_eq_true rfl) ?_
  refine W.eq (g2 := F0 m 4 ls []) rfl ?_
  refine lv_aload_n hx hb (show decode cX4_init 4 = .ok (.aload_n 0, 1) by decide +kernel) rfl e0 ?_
  refine lv_iconst hx hb (n := 4) (v := 4) (show decode cX4_init 5 = .ok (.iconst 4, 1) by decide +kernel) (by decide) ?_
  refine ct_newa (ty := .int) (N' := 4) (t0 := 0) (a0 := (4, .inl fun _ => 0)) hx hb (hts _ (List.mem_cons_of_mem _ (tblG_m1 71 rfl rfl))) rfl hK rfl hP hD hS hA (fun _ => rfl) (by decide) (by decide) (by decide) (show 0 + 1 ≤ 2 by decide) (show 0 + 4 ≤ 124 by decide) (show decode cX4_init 6 = .ok (.newarray .int, 2) by decide +kernel) (fun q6 H hP hD hS => ?_)
  have hP : va_P D vwCl [(h0, .inr (4, [.null, .null])), (q6, .inl (tc 0, 4, .inl fun _ => 0))] H := hP
  have hD : va_D A [(h0, .inr (4, [.null, .null])), (q6, .inl (tc 0, 4, .inl fun _ => 0))] := hD
  refine W.widen (k := 1) (n := 4) (by decide) (by decide) ?_
  refine lv_dup hx hb (show decode cX4_init 8 = .ok (.dup, 1) by decide +kernel) rfl ?_
  refine lv_iconst hx hb (n := 0) (v := 0) (show decode cX4_init 9 = .ok (.iconst 0, 1) by decide +kernel) (by decide) ?_
  refine lv_iconst hx hb (n := (-1)) (v := (-1)) (show decode cX4_init 10 = .ok (.iconst (-1), 1) by decide +kernel) (by decide) ?_
  refine va_iast (i := 0) (x := (-1)) hx hb hK hP hD hS 1 0 rfl rfl (by unfold vp_in; decide) (show decode cX4_init 11 = .ok (.iastore, 1) by decide +kernel) (fun H locs hP hD hS => ?_)
  have hP : va_P D vwCl [(h0, .inr (4, [.null, .null])), (q6, .inl (tc 0, 4, .inl (upd (fun _ => 0) 0 (-1))))] H := hP
  have hD : va_D A [(h0, .inr (4, [.null, .null])), (q6, .inl (tc 0, 4, .inl (upd (fun _ => 0) 0 (-1))))] := hD
  refine lv_dup hx hb (show decode cX4_init 12 = .ok (.dup, 1) by decide +kernel) rfl ?_
  refine lv_iconst hx hb (n := 1) (v := 1) (show decode cX4_init 13 = .ok (.iconst 1, 1) by decide +kernel) (by decide) ?_
  refine lv_iconst hx hb (n := (-1)) (v := (-1)) (show decode cX4_init 14 = .ok (.iconst (-1), 1) by decide +kernel) (by decide) ?_
  refine va_iast (i := 1) (x := (-1)) hx hb hK hP hD hS 1 0 rfl rfl (by unfold vp_in; decide) (show decode cX4_init 15 = .ok (.iastore, 1) by decide +kernel) (fun H locs hP hD hS => ?_)
  have hP : va_P D vwCl [(h0, .inr (4, [.null, .null])), (q6, .inl (tc 0, 4, .inl (upd (upd (fun _ => 0) 0 (-1)) 1 (-1))))] H := hP
  have hD : va_D A [(h0, .inr (4, [.null, .null])), (q6, .inl (tc 0, 4, .inl (upd (upd (fun _ => 0) 0 (-1)) 1 (-1))))] := hD
  refine lv_dup hx hb (show decode cX4_init 16 = .ok (.dup, 1) by decide +kernel) rfl ?_
  refine lv_iconst hx hb (n := 2) (v := 2) (show decode cX4_init 17 = .ok (.iconst 2, 1) by decide +kernel) (by decide) ?_
  refine lv_iconst hx hb (n := (-1)) (v := (-1)) (show decode cX4_init 18 = .ok (.iconst (-1), 1) by decide +kernel) (by decide) ?_
  refine va_iast (i := 2) (x := (-1)) hx hb hK hP hD hS 1 0 rfl rfl (by unfold vp_in; decide) (show decode cX4_init 19 = .ok (.iastore, 1) by decide +kernel) (fun H locs hP hD hS => ?_)
  have hP : va_P D vwCl [(h0, .inr (4, [.null, .null])), (q6, .inl (tc 0, 4, .inl (upd (upd (upd (fun _ => 0) 0 (-1)) 1 (-1)) 2 (-1))))] H := hP
  have hD : va_D A [(h0, .inr (4, [.null, .null])), (q6, .inl (tc 0, 4, .inl (upd (upd (upd (fun _ => 0) 0 (-1)) 1 (-1)) 2 (-1))))] := hD
  refine lv_dup hx hb (show decode cX4_init 20 = .ok (.dup, 1) by decide +kernel) rfl ?_
  refine lv_iconst hx hb (n := 3) (v := 3) (show decode cX4_init 21 = .ok (.iconst 3, 1) by decide +kernel) (by decide) ?_
  refine lv_iconst hx hb (n := (-1)) (v := (-1)) (show decode cX4_init 22 = .ok (.iconst (-1), 1) by decide +kernel) (by decide) ?_
  refine va_iast (i := 3) (x := (-1)) hx hb hK hP hD hS 1 0 rfl rfl (by unfold vp_in; decide) (show decode cX4_init 23 = .ok (.iastore, 1) by decide +kernel) (fun H locs hP hD hS => ?_)
  have hP : va_P D vwCl [(h0, .inr (4, [.null, .null])), (q6, .inl (tc 0, 4, .inl (upd (upd (upd (upd (fun _ => 0) 0 (-1)) 1 (-1)) 2 (-1)) 3 (-1))))] H := hP
  have hD : va_D A [(h0, .inr (4, [.null, .null])), (q6, .inl (tc 0, 4, .inl (upd (upd (upd (upd (fun _ => 0) 0 (-1)) 1 (-1)) 2 (-1)) 3 (-1))))] := hD
  refine va_putF (D := D) (ref := RX4) (ci := 4) (v := .ref q6) (ty := .array .int) (C := RX4) (T := TX4) (N := 2) hx hb hts (fun w hw => List.mem_cons_of_mem _ (iG4 w hw)) tyX4 tyX4_ok nmX4 hown hK hP hD hS 0 rfl rfl 0 (by decide) (hts _ (List.mem_cons_of_mem _ (tblG_m2 15 rfl rfl))) (fun _ h9 => h9) rfl hin rfl (by decide +kernel) rfl rfl (Nat.le_of_ble_eq_true rfl) (show decode cX4_init 24 = .ok (.putfield 11, 3) by decide +kernel) (fun H locs hP hD hS => ?_)
  have hP : va_P D vwCl [(h0, .inr (4, [.ref q6, .null])), (q6, .inl (tc 0, 4, .inl (upd (upd (upd (upd (fun _ => 0) 0 (-1)) 1 (-1)) 2 (-1)) 3 (-1))))] H := hP
  have hD : va_D A [(h0, .inr (4, [.ref q6, .null])), (q6, .inl (tc 0, 4, .inl (upd (upd (upd (upd (fun _ => 0) 0 (-1)) 1 (-1)) 2 (-1)) 3 (-1))))] := hD
  refine lv_aload_n hx hb (show decode cX4_init 27 = .ok (.aload_n 0, 1) by decide +kernel) rfl e0 ?_
  refine lv_bipush hx hb (v := 120) (show decode cX4_init 28 = .ok (.bipush 120, 2) by decide +kernel) (by decide) ?_
  refine ct_newa (ty := .long) (N' := 120) (t0 := 1) (a0 := (120, .inr (.inl fun _ => 0))) hx hb (hts _ (List.mem_cons_of_mem _ (tblG_m1 131 rfl rfl))) rfl hK rfl hP hD hS hA (fun _ => rfl) (by decide) (by decide) (by decide) (show 1 + 1 ≤ 2 by decide) (show 4 + 120 ≤ 124 by decide) (show decode cX4_init 30 = .ok (.newarray .long, 2) by decide +kernel) (fun q30 H hP hD hS => ?_)
  have hP : va_P D vwCl [(h0, .inr (4, [.ref q6, .null])), (q6, .inl (tc 0, 4, .inl (upd (upd (upd (upd (fun _ => 0) 0 (-1)) 1 (-1)) 2 (-1)) 3 (-1)))), (q30, .inl (tc 1, 120, .inr (.inl fun _ => 0)))] H := hP
  have hD : va_D A [(h0, .inr (4, [.ref q6, .null])), (q6, .inl (tc 0, 4, .inl (upd (upd (upd (upd (fun _ => 0) 0 (-1)) 1 (-1)) 2 (-1)) 3 (-1)))), (q30, .inl (tc 1, 120, .inr (.inl fun _ => 0)))] := hD
  refine W.widen (k := 2) (n := 124) (by decide) (by decide) ?_
  refine va_putF (D := D) (ref := RX4) (ci := 4) (v := .ref q30) (ty := .array .long) (C := RX4) (T := TX4) (N := 2) hx hb hts (fun w hw => List.mem_cons_of_mem _ (iG4 w hw)) tyX4 tyX4_ok nmX4 hown hK hP hD hS 0 rfl rfl 1 (by decide) (hts _ (List.mem_cons_of_mem _ (tblG_m2 17 rfl rfl))) (fun _ h9 => h9) rfl hin rfl (by decide +kernel) rfl rfl (Nat.le_of_ble_eq_true rfl) (show decode cX4_init 32 = .ok (.putfield 15, 3) by decide +kernel) (fun H locs hP hD hS => ?_)
  have hP : va_P D vwCl [(h0, .inr (4, [.ref q6, .ref q30])), (q6, .inl (tc 0, 4, .inl (upd (upd (upd (upd (fun _ => 0) 0 (-1)) 1 (-1)) 2 (-1)) 3 (-1)))), (q30, .inl (tc 1, 120, .inr (.inl fun _ => 0)))] H := hP
  have hD : va_D A [(h0, .inr (4, [.ref q6, .ref q30])), (q6, .inl (tc 0, 4, .inl (upd (upd (upd (upd (fun _ => 0) 0 (-1)) 1 (-1)) 2 (-1)) 3 (-1)))), (q30, .inl (tc 1, 120, .inr (.inl fun _ => 0)))] := hD
  exact W.vret hx hb hr (fun t ht hW => ⟨⟨fun k => [0, q6, q30].getD k 0, rfl, trivial, by rw [ht]; exact hP, hD⟩, hS.F ht⟩) hS.2.2 (show decode cX4_init 35 = .ok (.return_, 1) by decide +kernel)
