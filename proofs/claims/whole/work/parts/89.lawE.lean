/-! The law's start -/
theorem Rel_0 {h k : xH} (hc : PC0 h) (hm : PM0 k) : Rel h k := by
  obtain ⟨⟨a0, a1, a2, a6⟩, b7, ⟨b2, b3, b6⟩, ⟨c4, c44, c12⟩, c51, c54⟩ := hc
  obtain ⟨hs, ⟨m3, m22, m23⟩, m17, m20⟩ := hm
  refine ⟨⟨WF_s0 (w := 6) (by omega) hs, Or.inl m3, by omega, fun i x y => by omega, by omega, fun i x y => by omega, fun l x y => by rw [m17 l x y]; omega, fun l i x y z w => by rw [m17 l x y] at w; omega, m20⟩, RP0 (w := 6) (by omega) hs a0 (by rw [a1]; rfl) a2 a6, RB0 (w := 6) (by omega) hs (fun t x y => b7 t x (by omega)) b2 b3 b6, ⟨by rw [c4, m3], fun z => by omega⟩, ⟨by rw [c44, m22], fun i x y => by omega⟩, ⟨by rw [c12, m23], fun i x y => by omega⟩, fun l x y => ⟨by rw [c51 l x y, m17 l x y], fun i z w => by rw [m17 l x y] at w; omega⟩, c54⟩
theorem lwz_front {D : va_G} {cl : List vw_C} {ws w2 : va_W} {H : Heap} (hP : va_P D cl (ws ++ w2) H) : va_P D cl ws H := fun k q hq => hP k q (by rw [List.getElem?_append_left (List.getElem?_eq_some_iff.mp hq).1]; exact hq)
theorem lwz_last {D : va_G} {cl : List vw_C} {ws : va_W} {x : Nat × va_E} {H : Heap} (hP : va_P D cl (ws ++ [x]) H) : va_P D cl [x] H := by
  intro k q hq
  have hk : k < 1 := (List.getElem?_eq_some_iff.mp hq).1
  refine hP (ws.length + k) q ?_
  rw [List.getElem?_append_right (by omega), show ws.length + k - ws.length = k by omega]
  exact hq
theorem lwz_lastA {A : Nat → Prop} {ws : va_W} {q0 : Nat} {e0 : va_E} {H0 H : Heap} {locs : List Loc} (hD : va_D A (ws ++ [(q0, e0)])) (hS : va_S A H0 H locs) (hA : ∀ q, H0.size ≤ q → A q) : ∀ q, va_A [(q0, e0)] H.size q → A q := by
  intro q h
  rcases h with ⟨k, e, hk⟩ | h
  · have h1 : k < 1 := (List.getElem?_eq_some_iff.mp hk).1
    have h2 : k = 0 := by omega
    subst h2
    have h3 : (q0, e0) = (q, e) := by simpa using hk
    have h4 := hD.2 ws.length (q0, e0) (by simp)
    cases h3
    exact h4
  · exact hA q (Nat.le_trans hS.1 h)
theorem lwz_lastN {A : Nat → Prop} {ws : va_W} {q0 : Nat} {e0 : va_E} {H : Heap} (hD : va_D A (ws ++ [(q0, e0)])) {k : Nat} {x : Nat × va_E} (hx : ws[k]? = some x) (hlt : x.1 < H.size) : ¬ va_A [(q0, e0)] H.size x.1 := by
  intro h
  have hk : k < ws.length := (List.getElem?_eq_some_iff.mp hx).1
  rcases h with ⟨j, e, hj⟩ | h
  · have h1 : j < 1 := (List.getElem?_eq_some_iff.mp hj).1
    have h2 : j = 0 := by omega
    subst h2
    have h3 : q0 = x.1 := by simp at hj; exact hj.1
    have := hD.1 k ws.length x (q0, e0) (by rw [List.getElem?_append_left hk]; exact hx) (by simp) h3.symm
    omega
  · omega
set_option maxHeartbeats 4000000 in
set_option maxRecDepth 40000 in
/-- YOUR PART: from the entry, for every script of at most 2560 ints, the law comes to its end with true ('hflags': the launch's flags, for a law that throws: no stack traces) -/
theorem whole_start {p : Program} {e : Env} {s : State} {m : MethodId} {below : List Frame} {meth : Method} {c : Code} (l : Launch) (hflags : l.flags = flags0) {b L : Nat} {xs : Nat → Int32} (hL : L ≤ 2560) (C0 : lw_At p s m meth c b L xs) : W p l e room_1 s m #[Value.ref b] below meth c s.heap [] 0 0 (lw_Z below #[Value.ref b] s) (entryFrame m ([Value.ref b] : List Value).toArray 4) := by
  obtain ⟨hx, hb, hr, hml, hown, hts, hXs, hbl, hlk, hg⟩ := C0
  obtain ⟨D, tc, hK⟩ := lw_known hts
  have hN := lw_nest hts
  obtain ⟨ad0, hX0⟩ := lw_strs hts hg
  have htg : ∀ w ∈ tblG, w.before #[Value.ref b] s = true := fun w hw => hts w (List.mem_filter.mp hw).1
  have hA : ∀ q, s.heap.size ≤ q → lwA s q := fun q h => h
  have hl := lv_entry ([.ref b]) (n := 4) (Nat.le_of_ble_eq_true rfl)
  rw [lg_entry_eq]
  generalize (lg_sl ([.ref b]) ++ List.replicate (4 - (lg_sl ([.ref b])).length) Slot.unset).toArray = ls at hl ⊢
  have hl : lv_has ls 4 [(0, .ref b)] := hl
  have hP : va_P D vwCl [] s.heap := fun k q hq => by simp at hq
  have hD : va_D (lwA s) [] := ⟨fun i j p q hp => by simp at hp, fun k q hq => by simp at hq⟩
  have hS : va_S (lwA s) s.heap s.heap [] := va_S.rf
  refine va_new (ci := 7) (fs := [.null, .null, .null, .null, .int 0, .null, .null, .null, .null, .null, .null, .null, .int 0]) (C := RX7) (T := TX7) (N := 13) hx hb htg iG7 tyX7 tyX7_ok hown (htg _ (tblG_m1 18 rfl rfl)) (htg _ (tblG_m1 19 rfl rfl)) (htg _ (tblG_m1 1 rfl rfl)) hK hP hD hS hA rfl (by decide +kernel) (show 0 + 1 ≤ 600000 by decide) (show 0 + 13 ≤ 7302250 by decide) (show decode code 0 = .ok (.new 7, 3) by decide +kernel) (fun q1 H hP hD hS => ?_)
  refine W.widen (k := 1) (n := 13) (by decide) (by decide) ?_
  refine lv_dup hx hb (show decode code 3 = .ok (.dup, 1) by decide +kernel) rfl ?_
  have hFc := lwz_lastA hD hS hA
  have hPc := lwz_last hP
  refine va_callv (va_runI (As := []) (rest := [.ref q1]) ⟨hx, hb, hml, hown, htg⟩ (met_i7 l D tc ad0 q1 H.size) ⟨callB_of 0 htg (xgoodT (mj := mI7) (tblG_m1 22 rfl rfl)) rfl rfl rfl (htg _ (tblG_m1 1 rfl rfl)) (htg _ (tblG_m1 20 rfl rfl)) ⟨by decide +kernel, by decide +kernel, by decide +kernel⟩ ⟨Nat.le_of_ble_eq_true rfl, Nat.le_of_ble_eq_true rfl⟩, rfl, (htg _ (tblG_m1 21 rfl rfl))⟩ ⟨ct_blind2, fun U hU hW => ⟨rfl, by rw [hU], by rw [hU]; exact hPc, va_K.moved hW.alike hK, hN.warm hW, by rw [hU]; exact ((hX0.kept hS.2.1).narrow hFc).warm hW⟩⟩ rfl rfl hl.1 rfl (lv_room (Nat.le_of_ble_eq_true rfl)) (show decode code 4 = .ok (.invokespecial 9, 3) by decide +kernel) ⟨show 1 + 54 ≤ 600000 by decide, show 13 + 16448 ≤ 7302250 by decide⟩) hS (fun q _ h => hFc q h) hFc (fun u t H1 locs ht hvm hw hB hz1 hk1 hS => ?_)
  obtain ⟨aC, hC⟩ := u
  obtain ⟨hP1, hD1⟩ := hB
  obtain ⟨hpc, ha0, ha1⟩ := hw
  rw [ht] at hP1
  have hP : va_P D vwCl (xws wdC tc aC hC) H1 := hP1
  have hD : va_D (lwA s) (xws wdC tc aC hC) := ⟨hD1.1, fun k q hq => hFc _ (hD1.2 k q hq)⟩
  clear hP1 hD1
  replace ha0 : aC 0 = q1 := ha0
  replace ha1 : ∀ q, 1000 ≤ q → aC q = ad0 q := ha1
  replace hpc : PC0 hC := hpc
  refine W.widen (k := 55) (n := 16461) (by decide) (by decide) ?_
  refine lv_astore_n hx hb (show decode code 7 = .ok (.astore_n 1, 1) by decide +kernel) rfl hl (by decide) rfl (fun ls hl => ?_)
  refine va_new (ci := 8) (fs := [.null, .null, .null, .int 0, .null, .null, .null, .null, .null, .null, .int 0, .null, .null, .null, .null, .int 0, .int 0, .int 0, .int 0, .null, .null, .null, .int 0, .int 0, .int 0, .int 0, .null, .null, .null, .null]) (C := RX8) (T := TX8) (N := 30) hx hb htg iG8 tyX8 tyX8_ok hown (htg _ (tblG_m4 225 rfl rfl)) (htg _ (tblG_m4 226 rfl rfl)) (htg _ (tblG_m1 9 rfl rfl)) hK hP hD hS hA rfl (by decide +kernel) (show 55 + 1 ≤ 600000 by decide) (show 16461 + 30 ≤ 7302250 by decide) (show decode code 8 = .ok (.new 10, 3) by decide +kernel) (fun q2 H hP hD hS => ?_)
  refine W.widen (k := 56) (n := 16491) (by decide) (by decide) ?_
  refine lv_dup hx hb (show decode code 11 = .ok (.dup, 1) by decide +kernel) rfl ?_
  have hFc := lwz_lastA hD hS hA
  have hPc := lwz_last hP
  have hPf := lwz_front hP
  refine va_callv (va_runI (As := []) (rest := [.ref q2]) ⟨hx, hb, hml, hown, htg⟩ (met_i8 l D tc ad0 q2 H.size) ⟨callB_of 0 htg (xgoodT (mj := mI8) (tblG_m4 229 rfl rfl)) rfl rfl rfl (htg _ (tblG_m1 9 rfl rfl)) (htg _ (tblG_m4 227 rfl rfl)) ⟨by decide +kernel, by decide +kernel, by decide +kernel⟩ ⟨Nat.le_of_ble_eq_true rfl, Nat.le_of_ble_eq_true rfl⟩, rfl, (htg _ (tblG_m4 228 rfl rfl))⟩ ⟨ct_blind2, fun U hU hW => ⟨rfl, by rw [hU], by rw [hU]; exact hPc, va_K.moved hW.alike hK, hN.warm hW, by rw [hU]; exact ((hX0.kept hS.2.1).narrow hFc).warm hW⟩⟩ rfl rfl hl.1 rfl (lv_room (Nat.le_of_ble_eq_true rfl)) (show decode code 12 = .ok (.invokespecial 12, 3) by decide +kernel) ⟨show 56 + 20 ≤ 600000 by decide, show 16491 + 58914 ≤ 7302250 by decide⟩) hS (fun q _ h => hFc q h) hFc (fun u t H2 locs ht hvm hw hB hz1 hk1 hS => ?_)
  obtain ⟨aM, hM⟩ := u
  obtain ⟨hP1, hD1⟩ := hB
  obtain ⟨hpm, hb0, hb1⟩ := hw
  rw [ht] at hP1
  replace hP1 : va_P D vwCl (xws wdM tc aM hM) H2 := hP1
  replace hD1 : va_D (va_A [(q2, .inr (8, [.null, .null, .null, .int 0, .null, .null, .null, .null, .null, .null, .int 0, .null, .null, .null, .null, .int 0, .int 0, .int 0, .int 0, .null, .null, .null, .int 0, .int 0, .int 0, .int 0, .null, .null, .null, .null]))] H.size) (xws wdM tc aM hM) := hD1
  replace hb0 : aM 0 = q2 := hb0
  replace hb1 : ∀ q, 1000 ≤ q → aM q = ad0 q := hb1
  replace hpm : PM0 hM := hpm
  have hPx : va_P D vwCl (xws wdC tc aC hC) H2 := hPf.kept (fun k x hx => hk1 _ ((hPf k x hx).lt) (lwz_lastN hD hx ((hPf k x hx).lt)))
  refine W.widen (k := 76) (n := 75405) (by decide) (by decide) ?_
  have hDf : va_D (lwA s) (xws wdC tc aC hC) := ⟨fun i j p q hp hq => hD.1 i j p q (by rw [List.getElem?_append_left (List.getElem?_eq_some_iff.mp hp).1]; exact hp) (by rw [List.getElem?_append_left (List.getElem?_eq_some_iff.mp hq).1]; exact hq), fun k q hq => hD.2 k q (by rw [List.getElem?_append_left (List.getElem?_eq_some_iff.mp hq).1]; exact hq)⟩
  have hDm : va_D (lwA s) (xws wdM tc aM hM) := ⟨hD1.1, fun k q hq => hFc _ (hD1.2 k q hq)⟩
  have hdis : ∀ i j, i < wdC.length → j < wdM.length → aC i ≠ aM j := by
    intro i j hi hj he
    have hx1 := xws_get (tc := tc) (ad := aC) (h := hC) (List.getElem?_eq_getElem hi)
    have hlt := (hPf i _ hx1).lt
    refine lwz_lastN hD hx1 hlt ?_
    have hx2 := hD1.2 j _ (xws_get (List.getElem?_eq_getElem hj))
    show va_A _ _ (aC i)
    rw [he]
    exact hx2
  have F : lwF p s m meth c b L xs D tc aC aM := ⟨hx, hb, hml, hlk, hr, hown, hts, hXs, hbl, hL, hK, hN, ⟨xS_congr ha1 hX0, xS_congr hb1 hX0⟩, xD_inj hDf, xD_inj hDm, hdis⟩
  refine lv_astore_n hx hb (show decode code 15 = .ok (.astore_n 2, 1) by decide +kernel) rfl hl (by decide) rfl (fun ls hl => ?_)
  refine lv_iconst hx hb (n := 0) (v := Int32.ofInt ((0 : Nat) : Int)) (show decode code 16 = .ok (.iconst 0, 1) by decide +kernel) rfl ?_
  refine lv_istore_n hx hb (show decode code 17 = .ok (.istore_n 3, 1) by decide +kernel) rfl hl (by decide) rfl (fun ls hl => ?_)
  have hl : lv_has ls 4 [(3, .int (Int32.ofInt ((0 : Nat) : Int))), (2, .ref q2), (1, .ref q1), (0, .ref b)] := hl
  refine lw_loop F ⟨show 76 ≤ 600000 by decide, show 75405 ≤ 7302250 by decide⟩ (L + 5) 0 (by omega) (by omega) H2 locs hC hM ls (Rel_0 hpc hpm) ⟨hPx, hP1, hS⟩ ⟨hl.1, hl.2.1, fun q hq => hl.2.2 q ?_⟩
  rw [ha0, hb0] at hq
  simp only [List.mem_cons, List.not_mem_nil, or_false] at hq
  rcases hq with rfl | rfl | rfl | rfl
  · simp
  · simp
  · simp
  · exact List.mem_cons_self
