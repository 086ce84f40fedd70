/-! The law's loop -/
section
variable {p : Program} {l : Launch} {e : Env} {s : State} {m : MethodId} {below : List Frame} {meth : Method} {c : Code} {b L : Nat} {xs : Nat → Int32} {H : Heap} {locs : List Loc} {cells slots : Nat} {Q : State → Prop} {D : va_G} {tc : Nat → ClassId} {aC aM : Nat → Nat} {lsA : Array Slot} {pc : Nat} {rest : List Value} {h k : xH} {i : Nat}

theorem lw_gen {v0 : Int32} (kk : ∀ v : Int32, W p l e room_1 s m #[Value.ref b] below meth c H locs cells slots Q (F0 m pc lsA (.int v :: rest))) : W p l e room_1 s m #[Value.ref b] below meth c H locs cells slots Q (F0 m pc lsA (.int v0 :: rest)) := kk v0
theorem hdT : decode code 32 = .ok (.tableswitch 1236 0 39 #[176, 199, 242, 255, 288, 321, 370, 403, 436, 449, 462, 496, 520, 533, 556, 569, 582, 615, 638, 661, 684, 707, 721, 784, 797, 820, 843, 876, 899, 922, 955, 998, 1021, 1034, 1047, 1080, 1153, 1187, 1210, 1223], 176) := by decide +kernel
theorem lw_head (F : lwF p s m meth c b L xs D tc aC aM) (hcs : cells ≤ room_1.cells ∧ slots ≤ room_1.slots) (h2 : i ≤ L + 5) (S : lwS s D tc aC aM H locs h k) (hl : lwLs lsA b (aC 0) (aM 0) i) (kk : i + 5 ≤ L → W p l e room_1 s m #[Value.ref b] below meth c H locs cells slots (lw_Z below #[Value.ref b] s) (F0 m 26 lsA [])) : W p l e room_1 s m #[Value.ref b] below meth c H locs cells slots (lw_Z below #[Value.ref b] s) (F0 m 18 lsA []) := by
  obtain ⟨hx, hb, hml, hlk, hret, hown, hts, hXs, hbl, hLL, -⟩ := id F
  refine lv_iload_n hx hb (show decode code 18 = .ok (.iload_n 3, 1) by decide +kernel) rfl (lv_at hl 3 rfl) ?_
  refine lv_aload_n hx hb (show decode code 19 = .ok (.aload_n 0, 1) by decide +kernel) rfl (lv_at hl 0 rfl) ?_
  refine va_slen hx hb hXs hbl (fun z => absurd hbl (Nat.not_lt.mpr z)) S.2.2 (show decode code 20 = .ok (.arraylength, 1) by decide +kernel) ?_
  refine lv_iconst hx hb (n := 5) (v := Int32.ofInt 5) (show decode code 21 = .ok (.iconst 5, 1) by decide +kernel) rfl ?_
  refine lv_isub hx hb (show decode code 22 = .ok (.isub, 1) by decide +kernel) ?_
  have e1 : Int32.ofNat L - Int32.ofInt 5 = Int32.ofInt ((L : Int) - 5) := by rw [Int32.ofInt_sub]; rfl
  rw [e1]
  refine lv_icmp_gt (tgt := 1274) hx hb (show decode code 23 = .ok (.if_icmp .gt 1251, 3) by decide +kernel) (by decide) (fun hc => ?_) (fun hc => ?_)
  · refine va_forget (fun q hq => S.2.2.2.2 q hq) ?_
    refine W.widen (k := 600000) (n := 7302250) hcs.1 hcs.2 ?_
    refine lv_iconst hx hb (n := 1) (v := 1) (show decode code 1274 = .ok (.iconst 1, 1) by decide +kernel) rfl ?_
    exact lw_ret (pc := 1275) hx hb hret hlk (show decode code 1275 = .ok (.ireturn, 1) by decide +kernel)
  · refine kk ?_
    have := mt (i32_lt (a := (L : Int) - 5) (b := (i : Int)) (by unfold inI; omega) (by unfold inI; omega)).mpr hc
    omega
set_option maxHeartbeats 4000000 in
theorem lw_body (F : lwF p s m meth c b L xs D tc aC aM) (hcs : cells ≤ room_1.cells ∧ slots ≤ room_1.slots) (hi : i + 5 ≤ L) (hR : Rel h k) (S : lwS s D tc aC aM H locs h k) (hl : lwLs lsA b (aC 0) (aM 0) i) (kk : lwKK p l e s m below meth c b D tc aC aM cells slots Q lsA) : W p l e room_1 s m #[Value.ref b] below meth c H locs cells slots Q (F0 m 26 lsA []) := by
  obtain ⟨hx, hb, hml, hlk, hret, hown, hts, hXs, hbl, hLL, -⟩ := id F
  refine lv_aload_n hx hb (show decode code 26 = .ok (.aload_n 0, 1) by decide +kernel) rfl (lv_at hl 0 rfl) ?_
  refine lv_iload_n hx hb (show decode code 27 = .ok (.iload_n 3, 1) by decide +kernel) rfl (lv_at hl 3 rfl) ?_
  refine va_sld hx hb hXs hbl (fun z => absurd hbl (Nat.not_lt.mpr z)) S.2.2 (i32_in (by omega) (by omega) (by omega)) (show decode code 28 = .ok (.iaload, 1) by decide +kernel) ?_
  refine lv_bipush hx hb (v := 63) (show decode code 29 = .ok (.bipush 63, 2) by decide +kernel) (by decide) ?_
  refine lv_iand hx hb (show decode code 31 = .ok (.iand, 1) by decide +kernel) ?_
  refine lw_gen (Q := Q) (fun v => ?_)
  have hz : (v.toInt < 0 ∨ 39 < v.toInt) ∨ v.toInt = 0 ∨ v.toInt = 1 ∨ v.toInt = 2 ∨ v.toInt = 3 ∨ v.toInt = 4 ∨ v.toInt = 5 ∨ v.toInt = 6 ∨ v.toInt = 7 ∨ v.toInt = 8 ∨ v.toInt = 9 ∨ v.toInt = 10 ∨ v.toInt = 11 ∨ v.toInt = 12 ∨ v.toInt = 13 ∨ v.toInt = 14 ∨ v.toInt = 15 ∨ v.toInt = 16 ∨ v.toInt = 17 ∨ v.toInt = 18 ∨ v.toInt = 19 ∨ v.toInt = 20 ∨ v.toInt = 21 ∨ v.toInt = 22 ∨ v.toInt = 23 ∨ v.toInt = 24 ∨ v.toInt = 25 ∨ v.toInt = 26 ∨ v.toInt = 27 ∨ v.toInt = 28 ∨ v.toInt = 29 ∨ v.toInt = 30 ∨ v.toInt = 31 ∨ v.toInt = 32 ∨ v.toInt = 33 ∨ v.toInt = 34 ∨ v.toInt = 35 ∨ v.toInt = 36 ∨ v.toInt = 37 ∨ v.toInt = 38 ∨ v.toInt = 39 := by omega
  rcases hz with hz | hz | hz | hz | hz | hz | hz | hz | hz | hz | hz | hz | hz | hz | hz | hz | hz | hz | hz | hz | hz | hz | hz | hz | hz | hz | hz | hz | hz | hz | hz | hz | hz | hz | hz | hz | hz | hz | hz | hz | hz
  · exact lv_tableOut (tgt := 1268) hx hb hdT hz (by decide) (kk H locs h k hR S)
  · exact lv_tableIn (off := 176) (tgt := 208) hx hb hdT (by omega) (by omega) (by rw [hz]; rfl) (by decide) (lc_0 F S hl hi hcs hR kk)
  · exact lv_tableIn (off := 199) (tgt := 231) hx hb hdT (by omega) (by omega) (by rw [hz]; rfl) (by decide) (lc_1 F S hl hi hcs hR kk)
  · exact lv_tableIn (off := 242) (tgt := 274) hx hb hdT (by omega) (by omega) (by rw [hz]; rfl) (by decide) (lc_2 F S hl hi hcs hR kk)
  · exact lv_tableIn (off := 255) (tgt := 287) hx hb hdT (by omega) (by omega) (by rw [hz]; rfl) (by decide) (lc_3 F S hl hi hcs hR kk)
  · exact lv_tableIn (off := 288) (tgt := 320) hx hb hdT (by omega) (by omega) (by rw [hz]; rfl) (by decide) (lc_4 F S hl hi hcs hR kk)
  · exact lv_tableIn (off := 321) (tgt := 353) hx hb hdT (by omega) (by omega) (by rw [hz]; rfl) (by decide) (lc_5 F S hl hi hcs hR kk)
  · exact lv_tableIn (off := 370) (tgt := 402) hx hb hdT (by omega) (by omega) (by rw [hz]; rfl) (by decide) (lc_6 F S hl hi hcs hR kk)
  · exact lv_tableIn (off := 403) (tgt := 435) hx hb hdT (by omega) (by omega) (by rw [hz]; rfl) (by decide) (lc_7 F S hl hi hcs hR kk)
  · exact lv_tableIn (off := 436) (tgt := 468) hx hb hdT (by omega) (by omega) (by rw [hz]; rfl) (by decide) (lc_8 F S hl hi hcs hR kk)
  · exact lv_tableIn (off := 449) (tgt := 481) hx hb hdT (by omega) (by omega) (by rw [hz]; rfl) (by decide) (lc_9 F S hl hi hcs hR kk)
  · exact lv_tableIn (off := 462) (tgt := 494) hx hb hdT (by omega) (by omega) (by rw [hz]; rfl) (by decide) (lc_10 F S hl hi hcs hR kk)
  · exact lv_tableIn (off := 496) (tgt := 528) hx hb hdT (by omega) (by omega) (by rw [hz]; rfl) (by decide) (lc_11 F S hl hi hcs hR kk)
  · exact lv_tableIn (off := 520) (tgt := 552) hx hb hdT (by omega) (by omega) (by rw [hz]; rfl) (by decide) (lc_12 F S hl hi hcs hR kk)
  · exact lv_tableIn (off := 533) (tgt := 565) hx hb hdT (by omega) (by omega) (by rw [hz]; rfl) (by decide) (lc_13 F S hl hi hcs hR kk)
  · exact lv_tableIn (off := 556) (tgt := 588) hx hb hdT (by omega) (by omega) (by rw [hz]; rfl) (by decide) (lc_14 F S hl hi hcs hR kk)
  · exact lv_tableIn (off := 569) (tgt := 601) hx hb hdT (by omega) (by omega) (by rw [hz]; rfl) (by decide) (lc_15 F S hl hi hcs hR kk)
  · exact lv_tableIn (off := 582) (tgt := 614) hx hb hdT (by omega) (by omega) (by rw [hz]; rfl) (by decide) (lc_16 F S hl hi hcs hR kk)
  · exact lv_tableIn (off := 615) (tgt := 647) hx hb hdT (by omega) (by omega) (by rw [hz]; rfl) (by decide) (lc_17 F S hl hi hcs hR kk)
  · exact lv_tableIn (off := 638) (tgt := 670) hx hb hdT (by omega) (by omega) (by rw [hz]; rfl) (by decide) (lc_18 F S hl hi hcs hR kk)
  · exact lv_tableIn (off := 661) (tgt := 693) hx hb hdT (by omega) (by omega) (by rw [hz]; rfl) (by decide) (lc_19 F S hl hi hcs hR kk)
  · exact lv_tableIn (off := 684) (tgt := 716) hx hb hdT (by omega) (by omega) (by rw [hz]; rfl) (by decide) (lc_20 F S hl hi hcs hR kk)
  · exact lv_tableIn (off := 707) (tgt := 739) hx hb hdT (by omega) (by omega) (by rw [hz]; rfl) (by decide) (lc_21 F S hl hi hcs hR kk)
  · exact lv_tableIn (off := 721) (tgt := 753) hx hb hdT (by omega) (by omega) (by rw [hz]; rfl) (by decide) (lc_22 F S hl hi hcs hR kk)
  · exact lv_tableIn (off := 784) (tgt := 816) hx hb hdT (by omega) (by omega) (by rw [hz]; rfl) (by decide) (lc_23 F S hl hi hcs hR kk)
  · exact lv_tableIn (off := 797) (tgt := 829) hx hb hdT (by omega) (by omega) (by rw [hz]; rfl) (by decide) (lc_24 F S hl hi hcs hR kk)
  · exact lv_tableIn (off := 820) (tgt := 852) hx hb hdT (by omega) (by omega) (by rw [hz]; rfl) (by decide) (lc_25 F S hl hi hcs hR kk)
  · exact lv_tableIn (off := 843) (tgt := 875) hx hb hdT (by omega) (by omega) (by rw [hz]; rfl) (by decide) (lc_26 F S hl hi hcs hR kk)
  · exact lv_tableIn (off := 876) (tgt := 908) hx hb hdT (by omega) (by omega) (by rw [hz]; rfl) (by decide) (lc_27 F S hl hi hcs hR kk)
  · exact lv_tableIn (off := 899) (tgt := 931) hx hb hdT (by omega) (by omega) (by rw [hz]; rfl) (by decide) (lc_28 F S hl hi hcs hR kk)
  · exact lv_tableIn (off := 922) (tgt := 954) hx hb hdT (by omega) (by omega) (by rw [hz]; rfl) (by decide) (lc_29 F S hl hi hcs hR kk)
  · exact lv_tableIn (off := 955) (tgt := 987) hx hb hdT (by omega) (by omega) (by rw [hz]; rfl) (by decide) (lc_30 F S hl hi hcs hR kk)
  · exact lv_tableIn (off := 998) (tgt := 1030) hx hb hdT (by omega) (by omega) (by rw [hz]; rfl) (by decide) (lc_31 F S hl hi hcs hR kk)
  · exact lv_tableIn (off := 1021) (tgt := 1053) hx hb hdT (by omega) (by omega) (by rw [hz]; rfl) (by decide) (lc_32 F S hl hi hcs hR kk)
  · exact lv_tableIn (off := 1034) (tgt := 1066) hx hb hdT (by omega) (by omega) (by rw [hz]; rfl) (by decide) (lc_33 F S hl hi hcs hR kk)
  · exact lv_tableIn (off := 1047) (tgt := 1079) hx hb hdT (by omega) (by omega) (by rw [hz]; rfl) (by decide) (lc_34 F S hl hi hcs hR kk)
  · exact lv_tableIn (off := 1080) (tgt := 1112) hx hb hdT (by omega) (by omega) (by rw [hz]; rfl) (by decide) (lc_35 F S hl hi hcs hR kk)
  · exact lv_tableIn (off := 1153) (tgt := 1185) hx hb hdT (by omega) (by omega) (by rw [hz]; rfl) (by decide) (lc_36 F S hl hi hcs hR kk)
  · exact lv_tableIn (off := 1187) (tgt := 1219) hx hb hdT (by omega) (by omega) (by rw [hz]; rfl) (by decide) (lc_37 F S hl hi hcs hR kk)
  · exact lv_tableIn (off := 1210) (tgt := 1242) hx hb hdT (by omega) (by omega) (by rw [hz]; rfl) (by decide) (lc_38 F S hl hi hcs hR kk)
  · exact lv_tableIn (off := 1223) (tgt := 1255) hx hb hdT (by omega) (by omega) (by rw [hz]; rfl) (by decide) (lc_39 F S hl hi hcs hR kk)
set_option maxHeartbeats 4000000 in
theorem lw_loop (F : lwF p s m meth c b L xs D tc aC aM) (hcs : cells ≤ room_1.cells ∧ slots ≤ room_1.slots) : ∀ (n i : Nat), L + 5 ≤ i + n → i ≤ L + 5 → ∀ (H : Heap) (locs : List Loc) (h k : xH) (lsA : Array Slot), Rel h k → lwS s D tc aC aM H locs h k → lwLs lsA b (aC 0) (aM 0) i → W p l e room_1 s m #[Value.ref b] below meth c H locs cells slots (lw_Z below #[Value.ref b] s) (F0 m 18 lsA []) := by
  intro n
  induction n with
  | zero =>
    intro i h1 h2 H locs h k lsA hR S hl
    exact lw_head F hcs h2 S hl (fun hi => by omega)
  | succ n ih =>
    intro i h1 h2 H locs h k lsA hR S hl
    refine lw_head F hcs h2 S hl (fun hi => ?_)
    obtain ⟨hx, hb, hml, hlk, hret, hown, hts, hXs, hbl, hLL, -⟩ := id F
    have kk : lwKK p l e s m below meth c b D tc aC aM cells slots (lw_Z below #[Value.ref b] s) lsA := by
      intro H locs h k hR S
      refine lv_iinc (k := 3) (v := Int32.ofInt ((i + 5 : Nat) : Int)) hx hb (show decode code 1268 = .ok (.iinc 3 5, 3) by decide +kernel) hl rfl (by rw [Int.natCast_add, Int32.ofInt_add]; rfl) (by decide) rfl (fun ls' hl' => ?_)
      have hl' : lv_has ls' 4 [(3, .int (Int32.ofInt ((i + 5 : Nat) : Int))), (0, .ref b), (1, .ref (aC 0)), (2, .ref (aM 0))] := hl'
      refine lv_goto (tgt := 18) hx hb (show decode code 1271 = .ok (.goto (-1253), 3) by decide +kernel) (by decide) ?_
      refine ih (i + 5) (by omega) (by omega) H locs h k ls' hR S ⟨hl'.1, hl'.2.1, fun q hq => hl'.2.2 q ?_⟩
      simp only [List.mem_cons, List.not_mem_nil, or_false] at hq ⊢
      rcases hq with rfl | rfl | rfl | rfl
      · exact Or.inr (Or.inl rfl)
      · exact Or.inr (Or.inr (Or.inl rfl))
      · exact Or.inr (Or.inr (Or.inr rfl))
      · exact Or.inl rfl
    exact lw_body F hcs hi hR S hl kk
end
