/-! the text constants: String.length, String.charAt -/
def yJ3_checkIndex_8e157 : MethodName := ⟨RJ3, "checkIndex", "(IILjava/util/function/BiFunction;)I"⟩
def mJ_len : xM := (yJ0_length_8abf5, cJ0_length_8abf5, 1, some .int)
def mJ_cod : xM := (yJ0_coder_7d493, cJ0_coder_7d493, 1, some .byte)
def mJ_lat : xM := (yJ0_isLatin1_aae02, cJ0_isLatin1_aae02, 1, some .boolean)
def mJ_chr : xM := (yJ0_charAt_5068e, cJ0_charAt_5068e, 2, some .char)
def mJ_lch : xM := (yJ1_charAt_3b067, cJ1_charAt_3b067, 2, some .char)
def mJ_cks : xM := (yJ0_checkIndex_df160, cJ0_checkIndex_df160, 2, none)
def mJ_ckp : xM := (yJ3_checkIndex_8e157, cJ3_checkIndex_8e157, 3, some .int)
def slen (i : Nat) : Int := ((xlen.getD i 0 : Nat) : Int)
def sraw (i : Nat) (k : Int) : Int := ((xbyt.getD i []).getD k.toNat 0).toInt
def schr (i : Nat) (k : Int) : Int := sraw i k
theorem slen_in {i : Nat} (hi : i < 9) : 3 ≤ slen i ∧ slen i ≤ 5 := by
  have : ∀ i : Nat, i < 9 → 3 ≤ xlen.getD i 0 ∧ xlen.getD i 0 ≤ 5 := by decide
  have := this i hi
  unfold slen; omega
theorem sraw_ok {i : Nat} {k : Int} (hi : i < 9) (hk : 0 ≤ k ∧ k < slen i) : 97 ≤ sraw i k ∧ sraw i k ≤ 122 := by
  have a : ∀ i : Nat, i < 9 → ∀ k : Nat, k < xlen.getD i 0 → 97 ≤ ((xbyt.getD i []).getD k 0).toInt ∧ ((xbyt.getD i []).getD k 0).toInt ≤ 122 := by decide +kernel
  exact a i hi k.toNat (by unfold slen at hk; omega)
theorem i32_1 : Int32.ofInt 1 = 1 := by decide
theorem i32_0 : Int32.ofInt 0 = 0 := by decide
section XT
variable {wd : List xE} {d : Nat} {mi mj : xM} {pc : Nat} {ls : List (Option xV)} {st : List xV} {h : xH} {Q Q1 : Option xV → xH → Prop} {As rest : List xV}
set_option maxRecDepth 20000 in
theorem x_gstC (hc : mi.1.cls = RJ0) (hdg : decode mi.2.1 pc = .ok (.getstatic 38, 3)) (k : xG wd d mi (pc + 3) ls (.inl 1 :: st) h Q) : xG wd d mi pc ls st h Q := by
  intro p l e R s m args below meth cd D tc ad A H locs cells slots lsA hK hl hP hS hcs
  obtain ⟨hx, hb, hml, hr, hlk, hown, hts, hKK, hN, hi, hAi, hAq, hR, hX⟩ := id hK
  have k1 := k p l e R s m args below meth cd D tc ad A H locs cells slots lsA hK hl hP hS hcs
  simp only [List.map_cons, xc, i32_1] at k1
  exact va_gets (ref := "java/lang/String") hx hb hX.2.1 hS hown (hts _ (List.mem_cons_of_mem _ (by rw [hc]; exact tblG_m4 96 rfl rfl))) (fun _ h9 => h9) hdg k1
set_option maxRecDepth 20000 in
theorem x_scod {i : Nat} (hi9 : i < 9) (hc : mi.1.cls = RJ0) (hdg : decode mi.2.1 pc = .ok (.getfield 15, 3)) (k : xG wd d mi (pc + 3) ls (.inl 0 :: st) h Q) : xG wd d mi pc ls (.inr (.inr (1000 + i)) :: st) h Q := by
  intro p l e R s m args below meth cd D tc ad A H locs cells slots lsA hK hl hP hS hcs
  obtain ⟨hx, hb, hml, hr, hlk, hown, hts, hKK, hN, hi, hAi, hAq, hR, hX⟩ := id hK
  have k1 := k p l e R s m args below meth cd D tc ad A H locs cells slots lsA hK hl hP hS hcs
  simp only [List.map_cons, xc, i32_0] at k1
  exact vk_getf (ref := "java/lang/String") hx hb (hX.1.1 i hi9).2.1 hS hown (hts _ (List.mem_cons_of_mem _ (by rw [hc]; exact tblG_m6 177 rfl rfl))) (fun _ h9 => h9) hdg k1
set_option maxRecDepth 20000 in
theorem x_sval {i : Nat} (hi9 : i < 9) (hc : mi.1.cls = RJ0) (hdg : decode mi.2.1 pc = .ok (.getfield 9, 3)) (k : xG wd d mi (pc + 3) ls (.inr (.inr (2000 + i)) :: st) h Q) : xG wd d mi pc ls (.inr (.inr (1000 + i)) :: st) h Q := by
  intro p l e R s m args below meth cd D tc ad A H locs cells slots lsA hK hl hP hS hcs
  obtain ⟨hx, hb, hml, hr, hlk, hown, hts, hKK, hN, hi, hAi, hAq, hR, hX⟩ := id hK
  have k1 := k p l e R s m args below meth cd D tc ad A H locs cells slots lsA hK hl hP hS hcs
  exact vk_getf (ref := "java/lang/String") hx hb (hX.1.1 i hi9).2.2.1 hS hown (hts _ (List.mem_cons_of_mem _ (by rw [hc]; exact tblG_m6 176 rfl rfl))) (fun _ h9 => h9) hdg k1
theorem x_blen {i : Nat} (hi9 : i < 9) (hdg : decode mi.2.1 pc = .ok (.arraylength, 1)) (k : xG wd d mi (pc + 1) ls (.inl (slen i) :: st) h Q) : xG wd d mi pc ls (.inr (.inr (2000 + i)) :: st) h Q := by
  intro p l e R s m args below meth cd D tc ad A H locs cells slots lsA hK hl hP hS hcs
  obtain ⟨hx, hb, hml, hr, hlk, hown, hts, hKK, hN, hi, hAi, hAq, hR, hX⟩ := id hK
  have k1 := k p l e R s m args below meth cd D tc ad A H locs cells slots lsA hK hl hP hS hcs
  refine va_tlen hx hb (hX.1.1 i hi9).2.2.2 hS (v := Int32.ofInt (slen i)) ?_ hdg k1
  have : ∀ i : Nat, i < 9 → Int32.ofNat (xlen.getD i 0) = Int32.ofInt ((xlen.getD i 0 : Nat) : Int) := by decide +kernel
  exact this i hi9
theorem x_sbald {i : Nat} {q : Int} (hi9 : i < 9) (hg : 0 ≤ q ∧ q < slen i) (hdg : decode mi.2.1 pc = .ok (.baload, 1)) (k : xG wd d mi (pc + 1) ls (.inl (sraw i q) :: st) h Q) : xG wd d mi pc ls (.inl q :: .inr (.inr (2000 + i)) :: st) h Q := by
  intro p l e R s m args below meth cd D tc ad A H locs cells slots lsA hK hl hP hS hcs
  obtain ⟨hx, hb, hml, hr, hlk, hown, hts, hKK, hN, hi, hAi, hAq, hR, hX⟩ := id hK
  have k1 := k p l e R s m args below meth cd D tc ad A H locs cells slots lsA hK hl hP hS hcs
  have sl := slen_in hi9
  refine va_tb hx hb (hX.1.1 i hi9).2.2.2 hS (i := Int32.ofInt q) (v := .int (Int32.ofInt (sraw i q))) (i32_in hg.1 hg.2 (by unfold slen at sl; omega)) ?_ hdg k1
  rw [i32_clamp hg.1 (by omega)]
  unfold sraw
  rw [Int32.ofInt_toInt]
theorem x_i2c {a : Int} (hg : 0 ≤ a ∧ a < 256) (hdg : decode mi.2.1 pc = .ok (.i2c, 1)) (k : xG wd d mi (pc + 1) ls (.inl a :: st) h Q) : xG wd d mi pc ls (.inl a :: st) h Q := by
  intro p l e R s m args below meth cd D tc ad A H locs cells slots lsA hK hl hP hS hcs
  refine lv_i2c hK.1 hK.2.1 (v := Int32.ofInt a) hdg ?_ (k p l e R s m args below meth cd D tc ad A H locs cells slots lsA hK hl hP hS hcs)
  have : ∀ n : Nat, n < 256 → ((Int32.ofInt (n : Int)).toUInt32 % 65536).toInt32 = Int32.ofInt (n : Int) := by decide +kernel
  have := this a.toNat (by omega)
  rw [show ((a.toNat : Nat) : Int) = a by omega] at this
  exact this
theorem x_callSV {idx i : Nat} (hi9 : i < 9) (hL : xLink mi mj As.length idx) (hin : Cond.instanceMethod mj.1 ∈ tblG) (hsel : Cond.selects mj.1.cls mj.1 mj.1 ∈ tblG)
    (hC : mj.1.cls = "java/lang/String") (hfit : (xent0 (.inr (.inr (1000 + i)) :: As)).length ≤ mj.2.2.1) (hrest : (rest.map xcat).sum ≤ 8)
    (hdg : decode mi.2.1 pc = .ok (.invokevirtual idx, 3)) (hd : 1 ≤ d) (hG : xG wd (d - 1) mj 0 (xent mj.2.2.1 (.inr (.inr (1000 + i)) :: As)) [] h Q1)
    (kk : ∀ r h1, Q1 r h1 → xG wd d mi (pc + 3) ls (r.toList ++ rest) h1 Q) : xG wd d mi pc ls (As.reverse ++ .inr (.inr (1000 + i)) :: rest) h Q := by
  intro p l e R s m args below meth cd D tc ad A H locs cells slots lsA hK hl hP hS hcs
  obtain ⟨hx, hb, hml, hr, hlk, hown, hts, hKK, hN, hi, hAi, hAq, hR, hX⟩ := id hK
  have hA1 : ∀ q, xA wd ad H.size q → A q := fun q hq => by
    rcases hq with ⟨i, h1, rfl⟩ | h1
    · exact hAi i h1
    · exact hAq q (Nat.le_trans hS.1 h1)
  have hM := x_met (wd := wd) hL.2.2.1 hfit hG l D tc ad hi H.size
  have hin' : (∀ w ∈ tblG, w.before args s = true) := fun w hw => hts w (List.mem_cons_of_mem _ hw)
  refine x_after (va_runV (C := mj.1.cls) (As := As.map (xc ad)) (rest := rest.map (xc ad)) (n := As.length) (b := ad (1000 + i)) ⟨hx, hb, hml, hown, hts⟩ hM
    ⟨callB_of As.length hts (xgood hL.1) rfl rfl rfl (hin' _ hL.2.1) (hin' _ hL.2.2.2.2.2) hL.2.2.2.2.1 (x_rm hL.2.2.2.1 hd hR), hin' _ hin, hin' _ hsel⟩
    ⟨xPc_blind, by rw [hC]; exact vk_recv (adK := fun i => ad (1000 + i)) (i := i) hX.1 hi9 hS, fun U hU hW => x_pre hKK hN hX hA1 hP hS hU hW⟩ rfl (by simp) hl.1 (by simp [xc]) (lv_room (by rw [xcat_sum]; exact hrest)) hdg hcs) hS hA1 ?_
  intro r h1 H1 locs1 hq hP1 hS1 hz1 hk1
  have := kk r h1 hq p l e R s m args below meth cd D tc ad A H1 locs1 cells slots lsA hK hl hP1 hS1 hcs
  cases r <;> simpa using this
/-! Preconditions.checkIndex: whatever the third argument is -/
def xPv (wd : List xE) (D : va_G) (tc : Nat → ClassId) (ad : Nat → Nat) (a b : Int) (v : Value) (h : xH) (sz : Nat) : Array Value → State → Prop :=
  va_Pc [.int (Int32.ofInt a), .int (Int32.ofInt b), v] (fun U => U.heap.size = sz ∧ va_P D vwCl (xws wd tc ad h) U.heap)
theorem xPv_blind {D : va_G} {tc : Nat → ClassId} {ad : Nat → Nat} {a b : Int} {v : Value} {sz : Nat} : FrameBlind (xPv wd D tc ad a b v h sz) := by
  intro a' U g mk q
  obtain ⟨q0, q1, qP⟩ := q
  exact ⟨q0, q1, qP⟩
theorem met_ckp {a b : Int} {v : Value} (hv : v = .null ∨ ∃ t, v = .ref t) (hg : 0 ≤ a ∧ a < b ∧ inI b) (l : Launch) (D : va_G) (tc : Nat → ClassId) (ad : Nat → Nat) (sz : Nat) :
    Met l mJ_ckp.1 (xwm mJ_ckp) (xroom 0) (xPv wd D tc ad a b v h sz) (xQ wd D tc ad (xA wd ad sz) (fun r h' => h' = h ∧ r = some (.inl a))) 0 0 (xA wd ad sz) := by
  have hia : inI a := by have := hg.2.2; unfold inI at this ⊢; omega
  refine Met.ofW (cc := mJ_ckp.2.1) (maxL := mJ_ckp.2.2.1) (ret := mJ_ckp.2.2.2) (by decide +kernel) rfl ?_
  intro p e s m args below meth c s₁ B hml hw
  obtain ⟨rfl, hsz, hP⟩ := hw
  have hl := lv_entry [.int (Int32.ofInt a), .int (Int32.ofInt b), v] (n := mJ_ckp.2.2.1) (by rcases hv with rfl | ⟨t, rfl⟩ <;> exact Nat.le_of_ble_eq_true rfl)
  rw [lg_entry_eq]
  generalize (lg_sl [.int (Int32.ofInt a), .int (Int32.ofInt b), v] ++ List.replicate (mJ_ckp.2.2.1 - (lg_sl [.int (Int32.ofInt a), .int (Int32.ofInt b), v]).length) Slot.unset).toArray = ls at hl ⊢
  have e0 : ls[0]? = some (.val (.int (Int32.ofInt a))) := hl.2.2 (0, .int (Int32.ofInt a)) (by simp [lv_args])
  have e1 : ls[1]? = some (.val (.int (Int32.ofInt b))) := hl.2.2 (1, .int (Int32.ofInt b)) (by simp [lv_args, Value.category])
  refine lv_iload_n (cc := mJ_ckp.2.1) B.exec B.bytes (show decode mJ_ckp.2.1 0 = .ok (.iload_n 0, 1) by decide +kernel) rfl e0 ?_
  refine lv_if_lt B.exec B.bytes (tgt := 9) (show decode mJ_ckp.2.1 1 = .ok (.ifCond .lt 8, 3) by decide +kernel) (by decide) (fun hc => ?_) (fun _ => ?_)
  · have := (i32_lt hia inI_0).mp hc
    omega
  refine lv_iload_n B.exec B.bytes (show decode mJ_ckp.2.1 4 = .ok (.iload_n 0, 1) by decide +kernel) rfl e0 ?_
  refine lv_iload_n B.exec B.bytes (show decode mJ_ckp.2.1 5 = .ok (.iload_n 1, 1) by decide +kernel) rfl e1 ?_
  refine lv_icmp_lt B.exec B.bytes (tgt := 16) (show decode mJ_ckp.2.1 6 = .ok (.if_icmp .lt 10, 3) by decide +kernel) (by decide) (fun _ => ?_) (fun hc => ?_)
  · refine lv_iload_n B.exec B.bytes (show decode mJ_ckp.2.1 16 = .ok (.iload_n 0, 1) by decide +kernel) rfl e0 ?_
    have hS : va_S (xA wd ad sz) s.heap s.heap [] := va_S.rf
    exact W.iret B.exec B.bytes B.returns (fun t ht hW => ⟨⟨some (.inl a), h, rfl, ⟨rfl, rfl⟩, by rw [ht]; exact hP⟩, hS.F ht⟩) hS.2.2 (show decode mJ_ckp.2.1 17 = .ok (.ireturn, 1) by decide +kernel)
  · exact absurd ((i32_lt hia hg.2.2).mpr hg.2.1) hc
set_option maxRecDepth 20000 in
theorem x_gsck {a b : Int} (hg : 0 ≤ a ∧ a < b ∧ inI b) (hc : mi.1.cls = RJ0) (h1 : decode mi.2.1 pc = .ok (.getstatic 1053, 3)) (h2 : decode mi.2.1 (pc + 3) = .ok (.invokestatic 1059, 3)) (hd : 1 ≤ d) (hrest : (st.map xcat).sum ≤ 8) (k : xG wd d mi (pc + 3 + 3) ls (.inl a :: st) h Q) : xG wd d mi pc ls (.inl b :: .inl a :: st) h Q := by
  intro p l e R s m args below meth cd D tc ad A H locs cells slots lsA hK hl hP hS hcs
  obtain ⟨hx, hb, hml, hr, hlk, hown, hts, hKK, hN, hi, hAi, hAq, hR, hX⟩ := id hK
  have hA1 : ∀ q, xA wd ad H.size q → A q := fun q hq => by
    rcases hq with ⟨i, h1, rfl⟩ | h1
    · exact hAi i h1
    · exact hAq q (Nat.le_trans hS.1 h1)
  have hin' : (∀ w ∈ tblG, w.before args s = true) := fun w hw => hts w (List.mem_cons_of_mem _ hw)
  have mlink : Cond.methodLink mi.1.cls 1059 mJ_ckp.1 ∈ tblG := by rw [hc]; exact tblG_m4 114 rfl rfl
  have mcode : Cond.code mJ_ckp.1 mJ_ckp.2.1 mJ_ckp.2.2.1 mJ_ckp.2.2.2 ∈ tblG := tblG_m4 116 rfl rfl
  have mini : Cond.initialized mJ_ckp.1.cls ∈ tblG := tblG_m1 15 rfl rfl
  have mst : Cond.static mJ_ckp.1 ∈ tblG := tblG_m4 115 rfl rfl
  have go : ∀ v : Value, (v = .null ∨ ∃ t, v = .ref t) → W p l e R s m args below meth cd H locs cells slots (MQ below (xQ wd D tc ad A Q) args s cells slots A) (F0 m (pc + 3) lsA (v :: .int (Int32.ofInt b) :: .int (Int32.ofInt a) :: st.map (xc ad))) := by
    intro v hv
    have hM := met_ckp (wd := wd) (h := h) hv hg l D tc ad H.size
    refine x_after (va_runS (As := [.int (Int32.ofInt a), .int (Int32.ofInt b), v]) (rest := st.map (xc ad)) (n := 3) ⟨hx, hb, hml, hown, hts⟩ hM
      ⟨callB_of 3 hts (xgood mcode) rfl rfl rfl (hin' _ mini) (hin' _ mlink) ⟨by decide +kernel, by decide +kernel, by decide +kernel⟩ (by
        show (xroom 0).frames + 1 ≤ R.frames ∧ 8 + (3 + 11) + (xroom 0).locals ≤ R.locals
        simp only [xroom]; omega), hin' _ mst⟩
      ⟨xPv_blind, fun U hU hW => ⟨rfl, by rw [hU], by rw [hU]; exact hP⟩⟩ rfl rfl hl.1 rfl (lv_room (by rw [xcat_sum]; exact hrest)) h2 hcs) hS hA1 ?_
    intro r h1' H1 locs1 hq hP1 hS1 hz1 hk1
    obtain ⟨rfl, rfl⟩ := hq
    exact k p l e R s m args below meth cd D tc ad A H1 locs1 cells slots lsA hK hl hP1 hS1 hcs
  have lnk : (Cond.fieldLink mi.1.cls 1053 "jdk/internal/util/Preconditions" "SIOOBE_FORMATTER" "Ljava/util/function/BiFunction;").before args s = true := hts _ (List.mem_cons_of_mem _ (by rw [hc]; exact tblG_m4 112 rfl rfl))
  rcases hX.2.2.1 with hz | ⟨t, hz⟩
  · exact va_gets (ref := "jdk/internal/util/Preconditions") hx hb hz hS hown lnk (fun _ h9 => h9) h1 (go .null (Or.inl rfl))
  · exact va_gets (ref := "jdk/internal/util/Preconditions") hx hb hz hS hown lnk (fun _ h9 => h9) h1 (go (.ref t) (Or.inr ⟨t, rfl⟩))
end XT
section XU
variable {wd : List xE} {d : Nat} {h : xH} {Q : Option xV → xH → Prop}
theorem s_cod {i : Nat} (hi : i < 9) (hq : Q (some (.inl 0)) h) : xG wd d mJ_cod 0 [some (.inr (.inr (1000 + i)))] [] h Q := by
  refine x_gstC (pc := 0) rfl (show decode mJ_cod.2.1 0 = .ok (.getstatic 38, 3) by decide +kernel) ?_
  refine x_if_eq (pc := 3) (tgt := 13) (show decode mJ_cod.2.1 3 = .ok (.ifCond .eq 10, 3) by decide +kernel) (by decide) (by unfold inI; decide) (fun hc => absurd hc (by decide)) (fun _ => ?_)
  refine x_aload_n (pc := 6) (show decode mJ_cod.2.1 6 = .ok (.aload_n 0, 1) by decide +kernel) rfl rfl ?_
  refine x_scod (pc := 7) hi rfl (show decode mJ_cod.2.1 7 = .ok (.getfield 15, 3) by decide +kernel) ?_
  refine x_goto (pc := 10) (tgt := 14) (show decode mJ_cod.2.1 10 = .ok (.goto 4, 3) by decide +kernel) (by decide) ?_
  exact x_cret (pc := 14) (ty := .byte) rfl (by decide) (show decode mJ_cod.2.1 14 = .ok (.ireturn, 1) by decide +kernel) hq
theorem s_lat {i : Nat} (hi : i < 9) (hq : Q (some (.inl 1)) h) : xG wd d mJ_lat 0 [some (.inr (.inr (1000 + i)))] [] h Q := by
  refine x_gstC (pc := 0) rfl (show decode mJ_lat.2.1 0 = .ok (.getstatic 38, 3) by decide +kernel) ?_
  refine x_if_eq (pc := 3) (tgt := 17) (show decode mJ_lat.2.1 3 = .ok (.ifCond .eq 14, 3) by decide +kernel) (by decide) (by unfold inI; decide) (fun hc => absurd hc (by decide)) (fun _ => ?_)
  refine x_aload_n (pc := 6) (show decode mJ_lat.2.1 6 = .ok (.aload_n 0, 1) by decide +kernel) rfl rfl ?_
  refine x_scod (pc := 7) hi rfl (show decode mJ_lat.2.1 7 = .ok (.getfield 15, 3) by decide +kernel) ?_
  refine x_if_ne (pc := 10) (tgt := 17) (show decode mJ_lat.2.1 10 = .ok (.ifCond .ne 7, 3) by decide +kernel) (by decide) (by unfold inI; decide) (fun hc => absurd rfl hc) (fun _ => ?_)
  refine x_iconst (pc := 13) (n := 1) (show decode mJ_lat.2.1 13 = .ok (.iconst 1, 1) by decide +kernel) ?_
  refine x_goto (pc := 14) (tgt := 18) (show decode mJ_lat.2.1 14 = .ok (.goto 4, 3) by decide +kernel) (by decide) ?_
  exact x_zret (pc := 18) rfl (show decode mJ_lat.2.1 18 = .ok (.ireturn, 1) by decide +kernel) (by decide) hq
set_option maxRecDepth 20000 in
theorem lk_cod {mi : xM} (h : mi.1.cls = RJ0) : xLink mi mJ_cod 0 335 := ⟨tblG_m4 95 rfl rfl, tblG_m1 13 rfl rfl, by decide +kernel, by decide, ⟨by decide +kernel, by decide +kernel, by decide +kernel⟩, by rw [h]; exact tblG_m4 92 rfl rfl⟩
set_option maxRecDepth 20000 in
theorem lk_lat {mi : xM} (h : mi.1.cls = RJ0) : xLink mi mJ_lat 0 492 := ⟨tblG_m4 105 rfl rfl, tblG_m1 13 rfl rfl, by decide +kernel, by decide, ⟨by decide +kernel, by decide +kernel, by decide +kernel⟩, by rw [h]; exact tblG_m4 102 rfl rfl⟩
set_option maxRecDepth 20000 in
theorem lk_lch {mi : xM} (h : mi.1.cls = RJ0) : xLink mi mJ_lch 2 495 := ⟨tblG_m4 108 rfl rfl, tblG_m1 14 rfl rfl, by decide +kernel, by decide, ⟨by decide +kernel, by decide +kernel, by decide +kernel⟩, by rw [h]; exact tblG_m4 106 rfl rfl⟩
set_option maxRecDepth 20000 in
theorem lk_cks {mi : xM} (h : mi.1.cls = RJ1) : xLink mi mJ_cks 2 9 := ⟨tblG_m4 111 rfl rfl, tblG_m1 13 rfl rfl, by decide +kernel, by decide, ⟨by decide +kernel, by decide +kernel, by decide +kernel⟩, by rw [h]; exact tblG_m4 109 rfl rfl⟩
set_option maxRecDepth 20000 in
theorem lk_len {mi : xM} (h : mi.1.cls = RX5) : xLink mi mJ_len 0 93 := ⟨tblG_m4 91 rfl rfl, tblG_m1 13 rfl rfl, by decide +kernel, by decide, ⟨by decide +kernel, by decide +kernel, by decide +kernel⟩, by rw [h]; exact tblG_m4 88 rfl rfl⟩
set_option maxRecDepth 20000 in
theorem lk_chr {mi : xM} (h : mi.1.cls = RX5) : xLink mi mJ_chr 1 97 := ⟨tblG_m4 101 rfl rfl, tblG_m1 13 rfl rfl, by decide +kernel, by decide, ⟨by decide +kernel, by decide +kernel, by decide +kernel⟩, by rw [h]; exact tblG_m4 98 rfl rfl⟩
set_option maxRecDepth 20000 in
theorem sm_lch : Cond.static mJ_lch.1 ∈ tblG := tblG_m4 107 rfl rfl
set_option maxRecDepth 20000 in
theorem sm_cks : Cond.static mJ_cks.1 ∈ tblG := tblG_m4 110 rfl rfl
set_option maxRecDepth 20000 in
theorem im_cod : Cond.instanceMethod mJ_cod.1 ∈ tblG := tblG_m4 93 rfl rfl
set_option maxRecDepth 20000 in
theorem sl_cod : Cond.selects mJ_cod.1.cls mJ_cod.1 mJ_cod.1 ∈ tblG := tblG_m4 94 rfl rfl
set_option maxRecDepth 20000 in
theorem im_lat : Cond.instanceMethod mJ_lat.1 ∈ tblG := tblG_m4 103 rfl rfl
set_option maxRecDepth 20000 in
theorem sl_lat : Cond.selects mJ_lat.1.cls mJ_lat.1 mJ_lat.1 ∈ tblG := tblG_m4 104 rfl rfl
set_option maxRecDepth 20000 in
theorem im_len : Cond.instanceMethod mJ_len.1 ∈ tblG := tblG_m4 89 rfl rfl
set_option maxRecDepth 20000 in
theorem sl_len : Cond.selects mJ_len.1.cls mJ_len.1 mJ_len.1 ∈ tblG := tblG_m4 90 rfl rfl
set_option maxRecDepth 20000 in
theorem im_chr : Cond.instanceMethod mJ_chr.1 ∈ tblG := tblG_m4 99 rfl rfl
set_option maxRecDepth 20000 in
theorem sl_chr : Cond.selects mJ_chr.1.cls mJ_chr.1 mJ_chr.1 ∈ tblG := tblG_m4 100 rfl rfl
theorem s_len {i : Nat} (hd : 1 ≤ d) (hi : i < 9) (hq : Q (some (.inl (slen i))) h) : xG wd d mJ_len 0 [some (.inr (.inr (1000 + i)))] [] h Q := by
  have sl := slen_in hi
  refine x_aload_n (pc := 0) (show decode mJ_len.2.1 0 = .ok (.aload_n 0, 1) by decide +kernel) rfl rfl ?_
  refine x_sval (pc := 1) hi rfl (show decode mJ_len.2.1 1 = .ok (.getfield 9, 3) by decide +kernel) ?_
  refine x_blen (pc := 4) hi (show decode mJ_len.2.1 4 = .ok (.arraylength, 1) by decide +kernel) ?_
  refine x_aload_n (pc := 5) (show decode mJ_len.2.1 5 = .ok (.aload_n 0, 1) by decide +kernel) rfl rfl ?_
  refine x_callSV (pc := 6) (As := []) (rest := [.inl (slen i)]) (Q1 := fun r h1 => r = some (.inl 0) ∧ h1 = h) hi (lk_cod rfl) im_cod sl_cod rfl (Nat.le_of_ble_eq_true rfl) (Nat.le_of_ble_eq_true rfl) (show decode mJ_len.2.1 6 = .ok (.invokevirtual 335, 3) by decide +kernel) hd (s_cod hi ⟨rfl, rfl⟩) (fun r h1 hq1 => ?_)
  obtain ⟨rfl, rfl⟩ := hq1
  show xG _ _ _ 9 _ [.inl 0, .inl (slen i)] _ _
  refine x_ishr (pc := 9) (show decode mJ_len.2.1 9 = .ok (.ishr, 1) by decide +kernel) ⟨inI_s (by omega) (by omega), by omega, by omega⟩ ?_
  rw [show slen i / 2 ^ (Int.toNat 0) = slen i by simp]
  exact x_iret (pc := 10) rfl (show decode mJ_len.2.1 10 = .ok (.ireturn, 1) by decide +kernel) hq
theorem s_cks {a b : Int} (hd : 1 ≤ d) (hg : 0 ≤ a ∧ a < b ∧ inI b) (hq : Q none h) : xG wd d mJ_cks 0 [some (.inl a), some (.inl b)] [] h Q := by
  refine x_iload_n (pc := 0) (show decode mJ_cks.2.1 0 = .ok (.iload_n 0, 1) by decide +kernel) rfl rfl ?_
  refine x_iload_n (pc := 1) (show decode mJ_cks.2.1 1 = .ok (.iload_n 1, 1) by decide +kernel) rfl rfl ?_
  refine x_gsck (pc := 2) hg rfl (show decode mJ_cks.2.1 2 = .ok (.getstatic 1053, 3) by decide +kernel) (show decode mJ_cks.2.1 5 = .ok (.invokestatic 1059, 3) by decide +kernel) hd (by decide) ?_
  refine x_pop (pc := 8) (show decode mJ_cks.2.1 8 = .ok (.pop, 1) by decide +kernel) rfl ?_
  exact x_vret (pc := 9) rfl (show decode mJ_cks.2.1 9 = .ok (.return_, 1) by decide +kernel) hq
theorem s_lch {i : Nat} {k : Int} (hd : 2 ≤ d) (hi : i < 9) (hk : 0 ≤ k ∧ k < slen i) (hq : Q (some (.inl (schr i k))) h) : xG wd d mJ_lch 0 [some (.inr (.inr (2000 + i))), some (.inl k)] [] h Q := by
  have sl := slen_in hi
  have sr := sraw_ok hi hk
  refine x_iload_n (pc := 0) (show decode mJ_lch.2.1 0 = .ok (.iload_n 1, 1) by decide +kernel) rfl rfl ?_
  refine x_aload_n (pc := 1) (show decode mJ_lch.2.1 1 = .ok (.aload_n 0, 1) by decide +kernel) rfl rfl ?_
  refine x_blen (pc := 2) hi (show decode mJ_lch.2.1 2 = .ok (.arraylength, 1) by decide +kernel) ?_
  refine x_callS (pc := 3) (As := [.inl k, .inl (slen i)]) (rest := []) (Q1 := fun r h1 => r = none ∧ h1 = h) (lk_cks rfl) sm_cks (Nat.le_of_ble_eq_true rfl) (Nat.le_of_ble_eq_true rfl) (show decode mJ_lch.2.1 3 = .ok (.invokestatic 9, 3) by decide +kernel) (by omega) (s_cks (by omega) ⟨hk.1, hk.2, inI_s (by omega) (by omega)⟩ ⟨rfl, rfl⟩) (fun r h1 hq1 => ?_)
  obtain ⟨rfl, rfl⟩ := hq1
  show xG _ _ _ 6 _ [] _ _
  refine x_aload_n (pc := 6) (show decode mJ_lch.2.1 6 = .ok (.aload_n 0, 1) by decide +kernel) rfl rfl ?_
  refine x_iload_n (pc := 7) (show decode mJ_lch.2.1 7 = .ok (.iload_n 1, 1) by decide +kernel) rfl rfl ?_
  refine x_sbald (pc := 8) hi hk (show decode mJ_lch.2.1 8 = .ok (.baload, 1) by decide +kernel) ?_
  refine x_sipush (pc := 9) (n := 255) (show decode mJ_lch.2.1 9 = .ok (.sipush 255, 3) by decide +kernel) (by decide) ?_
  refine x_iand (pc := 12) (show decode mJ_lch.2.1 12 = .ok (.iand, 1) by decide +kernel) ?_
  have e : xandI (sraw i k) 255 = sraw i k := by
    have : ∀ n : Nat, n < 128 → xandI (n : Int) 255 = (n : Int) := by decide +kernel
    have := this (sraw i k).toNat (by omega)
    rw [show (((sraw i k).toNat : Nat) : Int) = sraw i k by omega] at this
    exact this
  rw [e]
  refine x_i2c (pc := 13) (by omega) (show decode mJ_lch.2.1 13 = .ok (.i2c, 1) by decide +kernel) ?_
  refine x_cret (pc := 14) (ty := .char) rfl ?_ (show decode mJ_lch.2.1 14 = .ok (.ireturn, 1) by decide +kernel) hq
  have : ∀ n : Nat, n < 128 → narrow .char (.int (Int32.ofInt (n : Int))) = .int (Int32.ofInt (n : Int)) := by decide +kernel
  have := this (sraw i k).toNat (by omega)
  rw [show (((sraw i k).toNat : Nat) : Int) = sraw i k by omega] at this
  exact this
theorem s_chr {i : Nat} {k : Int} (hd : 3 ≤ d) (hi : i < 9) (hk : 0 ≤ k ∧ k < slen i) (hq : Q (some (.inl (schr i k))) h) : xG wd d mJ_chr 0 [some (.inr (.inr (1000 + i))), some (.inl k)] [] h Q := by
  have sl := slen_in hi
  have sr := sraw_ok hi hk
  refine x_aload_n (pc := 0) (show decode mJ_chr.2.1 0 = .ok (.aload_n 0, 1) by decide +kernel) rfl rfl ?_
  refine x_callSV (pc := 1) (As := []) (rest := []) (Q1 := fun r h1 => r = some (.inl 1) ∧ h1 = h) hi (lk_lat rfl) im_lat sl_lat rfl (Nat.le_of_ble_eq_true rfl) (Nat.le_of_ble_eq_true rfl) (show decode mJ_chr.2.1 1 = .ok (.invokevirtual 492, 3) by decide +kernel) (by omega) (s_lat hi ⟨rfl, rfl⟩) (fun r h1 hq1 => ?_)
  obtain ⟨rfl, rfl⟩ := hq1
  show xG _ _ _ 4 _ [.inl 1] _ _
  refine x_if_eq (pc := 4) (tgt := 16) (show decode mJ_chr.2.1 4 = .ok (.ifCond .eq 12, 3) by decide +kernel) (by decide) (by unfold inI; decide) (fun hc => absurd hc (by decide)) (fun _ => ?_)
  refine x_aload_n (pc := 7) (show decode mJ_chr.2.1 7 = .ok (.aload_n 0, 1) by decide +kernel) rfl rfl ?_
  refine x_sval (pc := 8) hi rfl (show decode mJ_chr.2.1 8 = .ok (.getfield 9, 3) by decide +kernel) ?_
  refine x_iload_n (pc := 11) (show decode mJ_chr.2.1 11 = .ok (.iload_n 1, 1) by decide +kernel) rfl rfl ?_
  refine x_callS (pc := 12) (As := [.inr (.inr (2000 + i)), .inl k]) (rest := []) (Q1 := fun r h2 => r = some (.inl (schr i k)) ∧ h2 = h1) (lk_lch rfl) sm_lch (Nat.le_of_ble_eq_true rfl) (Nat.le_of_ble_eq_true rfl) (show decode mJ_chr.2.1 12 = .ok (.invokestatic 495, 3) by decide +kernel) (by omega) (s_lch (by omega) hi hk ⟨rfl, rfl⟩) (fun r h2 hq1 => ?_)
  obtain ⟨rfl, rfl⟩ := hq1
  show xG _ _ _ 15 _ [.inl (schr i k)] _ _
  refine x_cret (pc := 15) (ty := .char) rfl ?_ (show decode mJ_chr.2.1 15 = .ok (.ireturn, 1) by decide +kernel) hq
  have : ∀ n : Nat, n < 128 → narrow .char (.int (Int32.ofInt (n : Int))) = .int (Int32.ofInt (n : Int)) := by decide +kernel
  have := this (sraw i k).toNat (by omega)
  rw [show (((sraw i k).toNat : Nat) : Int) = sraw i k by omega] at this
  exact this
end XU
theorem sg_X5_isWord_17 {d : Nat} {x1 x3 : Int} {i : Nat} {h : xH} {Q : Int → xH → Prop} (hd : 4 ≤ d) (hi : i < 9)
    (hR : (inI x3) ∧ (slen i ≤ x3 → Q 1 h) ∧ (x3 < slen i → 0 ≤ x3 ∧ (0 ≤ x1 + x3 ∧ x1 + x3 < 120) ∧ inI (h 45 (x1 + x3)) ∧ (¬ h 45 (x1 + x3) = schr i x3 → Q 0 h) ∧ (h 45 (x1 + x3) = schr i x3 → gI wdC d mX5_isWord 17 [some (.inr (.inr 44)), some (.inl x1), some (.inr (.inr (1000 + i))), some (.inl (x3 + 1))] h Q))) :
    gI wdC d mX5_isWord 17 [some (.inr (.inr 44)), some (.inl x1), some (.inr (.inr (1000 + i))), some (.inl x3)] h Q := by
  unfold gI at *
  have sl := slen_in hi
  obtain ⟨g0, g1, g2⟩ := hR
  refine x_iload_n (pc := 17) (show decode mX5_isWord.2.1 17 = .ok (.iload_n 3, 1) by decide +kernel) rfl rfl ?_
  refine x_aload_n (pc := 18) (show decode mX5_isWord.2.1 18 = .ok (.aload_n 2, 1) by decide +kernel) rfl rfl ?_
  refine x_callSV (pc := 19) (As := []) (rest := [.inl x3]) (Q1 := fun r h1 => r = some (.inl (slen i)) ∧ h1 = h) hi (lk_len rfl) im_len sl_len rfl (Nat.le_of_ble_eq_true rfl) (Nat.le_of_ble_eq_true rfl) (show decode mX5_isWord.2.1 19 = .ok (.invokevirtual 93, 3) by decide +kernel) (by omega) (s_len (by omega) hi ⟨rfl, rfl⟩) (fun r h1 hq1 => ?_)
  obtain ⟨rfl, rfl⟩ := hq1
  show xG _ _ _ 22 _ [.inl (slen i), .inl x3] _ _
  refine x_icmp_ge (pc := 22) (tgt := 49) (show decode mX5_isWord.2.1 22 = .ok (.if_icmp .ge 27, 3) by decide +kernel) (by decide) ⟨g0, inI_s (by omega) (by omega)⟩ (fun hc => ?_) (fun hc => ?_)
  · refine x_iconst (pc := 49) (n := 1) (show decode mX5_isWord.2.1 49 = .ok (.iconst 1, 1) by decide +kernel) ?_
    exact x_zret (pc := 50) rfl (show decode mX5_isWord.2.1 50 = .ok (.ireturn, 1) by decide +kernel) (by decide) ⟨_, rfl, g1 hc⟩
  · obtain ⟨b0, b1, b2, b3, b4⟩ := g2 hc
    have sr := sraw_ok hi ⟨b0, hc⟩
    refine x_aload_n (pc := 25) (show decode mX5_isWord.2.1 25 = .ok (.aload_n 0, 1) by decide +kernel) rfl rfl ?_
    refine x_getR (pc := 26) f5_9 rfl rfl (show decode mX5_isWord.2.1 26 = .ok (.getfield 9, 3) by decide +kernel) ?_
    refine x_iload_n (pc := 29) (show decode mX5_isWord.2.1 29 = .ok (.iload_n 1, 1) by decide +kernel) rfl rfl ?_
    refine x_iload_n (pc := 30) (show decode mX5_isWord.2.1 30 = .ok (.iload_n 3, 1) by decide +kernel) rfl rfl ?_
    refine x_iadd (pc := 31) (show decode mX5_isWord.2.1 31 = .ok (.iadd, 1) by decide +kernel) ?_
    refine x_iald (pc := 32) rfl (by decide) b1 (show decode mX5_isWord.2.1 32 = .ok (.iaload, 1) by decide +kernel) ?_
    refine x_aload_n (pc := 33) (show decode mX5_isWord.2.1 33 = .ok (.aload_n 2, 1) by decide +kernel) rfl rfl ?_
    refine x_iload_n (pc := 34) (show decode mX5_isWord.2.1 34 = .ok (.iload_n 3, 1) by decide +kernel) rfl rfl ?_
    refine x_callSV (pc := 35) (As := [.inl x3]) (rest := [.inl (h1 45 (x1 + x3))]) (Q1 := fun r h2 => r = some (.inl (schr i x3)) ∧ h2 = h1) hi (lk_chr rfl) im_chr sl_chr rfl (Nat.le_of_ble_eq_true rfl) (Nat.le_of_ble_eq_true rfl) (show decode mX5_isWord.2.1 35 = .ok (.invokevirtual 97, 3) by decide +kernel) (by omega) (s_chr (by omega) hi ⟨b0, hc⟩ ⟨rfl, rfl⟩) (fun r h2 hq1 => ?_)
    obtain ⟨rfl, rfl⟩ := hq1
    show xG _ _ _ 38 _ [.inl (schr i x3), .inl (h2 45 (x1 + x3))] _ _
    refine x_icmp_eq (pc := 38) (tgt := 43) (show decode mX5_isWord.2.1 38 = .ok (.if_icmp .eq 5, 3) by decide +kernel) (by decide) ⟨b2, inI_s (by unfold schr; omega) (by unfold schr; omega)⟩ (fun hc2 => ?_) (fun hc2 => ?_)
    · refine x_iinc (pc := 43) (i := 3) (n := 1) (a := x3) (show decode mX5_isWord.2.1 43 = .ok (.iinc 3 1, 3) by decide +kernel) (by decide) rfl rfl ?_
      exact x_goto (pc := 46) (tgt := 17) (show decode mX5_isWord.2.1 46 = .ok (.goto (-29), 3) by decide +kernel) (by decide) (b4 hc2)
    · refine x_iconst (pc := 41) (n := 0) (show decode mX5_isWord.2.1 41 = .ok (.iconst 0, 1) by decide +kernel) ?_
      exact x_zret (pc := 42) rfl (show decode mX5_isWord.2.1 42 = .ok (.ireturn, 1) by decide +kernel) (by decide) ⟨_, rfl, b3 hc2⟩
theorem sg_X5_isWord_0 {d : Nat} {x1 : Int} {i : Nat} {h : xH} {Q : Int → xH → Prop} (hd : 4 ≤ d) (hi : i < 9)
    (hR : inI (h 44 2 - x1) ∧ (¬ h 44 2 - x1 = slen i → Q 0 h) ∧ (h 44 2 - x1 = slen i → gI wdC d mX5_isWord 17 [some (.inr (.inr 44)), some (.inl x1), some (.inr (.inr (1000 + i))), some (.inl 0)] h Q)) :
    gI wdC d mX5_isWord 0 [some (.inr (.inr 44)), some (.inl x1), some (.inr (.inr (1000 + i))), none] h Q := by
  unfold gI at *
  have sl := slen_in hi
  obtain ⟨g0, g1, g2⟩ := hR
  refine x_aload_n (pc := 0) (show decode mX5_isWord.2.1 0 = .ok (.aload_n 0, 1) by decide +kernel) rfl rfl ?_
  refine x_getI (pc := 1) (ki := 2) f5_19 rfl rfl (by decide) rfl (show decode mX5_isWord.2.1 1 = .ok (.getfield 19, 3) by decide +kernel) ?_
  refine x_iload_n (pc := 4) (show decode mX5_isWord.2.1 4 = .ok (.iload_n 1, 1) by decide +kernel) rfl rfl ?_
  refine x_isub (pc := 5) (show decode mX5_isWord.2.1 5 = .ok (.isub, 1) by decide +kernel) ?_
  refine x_aload_n (pc := 6) (show decode mX5_isWord.2.1 6 = .ok (.aload_n 2, 1) by decide +kernel) rfl rfl ?_
  refine x_callSV (pc := 7) (As := []) (rest := [.inl (h 44 2 - x1)]) (Q1 := fun r h1 => r = some (.inl (slen i)) ∧ h1 = h) hi (lk_len rfl) im_len sl_len rfl (Nat.le_of_ble_eq_true rfl) (Nat.le_of_ble_eq_true rfl) (show decode mX5_isWord.2.1 7 = .ok (.invokevirtual 93, 3) by decide +kernel) (by omega) (s_len (by omega) hi ⟨rfl, rfl⟩) (fun r h1 hq1 => ?_)
  obtain ⟨rfl, rfl⟩ := hq1
  show xG _ _ _ 10 _ [.inl (slen i), .inl (h1 44 2 - x1)] _ _
  refine x_icmp_eq (pc := 10) (tgt := 15) (show decode mX5_isWord.2.1 10 = .ok (.if_icmp .eq 5, 3) by decide +kernel) (by decide) ⟨g0, inI_s (by omega) (by omega)⟩ (fun hc => ?_) (fun hc => ?_)
  · refine x_iconst (pc := 15) (n := 0) (show decode mX5_isWord.2.1 15 = .ok (.iconst 0, 1) by decide +kernel) ?_
    exact x_istore_n (pc := 16) (ls' := [some (.inr (.inr 44)), some (.inl x1), some (.inr (.inr (1000 + i))), some (.inl 0)]) (show decode mX5_isWord.2.1 16 = .ok (.istore_n 3, 1) by decide +kernel) rfl (by decide) rfl (g2 hc)
  · refine x_iconst (pc := 13) (n := 0) (show decode mX5_isWord.2.1 13 = .ok (.iconst 0, 1) by decide +kernel) ?_
    exact x_zret (pc := 14) rfl (show decode mX5_isWord.2.1 14 = .ok (.ireturn, 1) by decide +kernel) (by decide) ⟨_, rfl, g1 hc⟩
