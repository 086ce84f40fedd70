/-! The law's cases -/
def lwKK (p : Program) (l : Launch) (e : Env) (s : State) (m : MethodId) (below : List Frame) (meth : Method) (c : Code) (b : Nat) (D : va_G) (tc : Nat → ClassId) (aC aM : Nat → Nat) (cells slots : Nat) (Q : State → Prop) (lsA : Array Slot) : Prop := ∀ (H : Heap) (locs : List Loc) (h k : xH), Rel h k → lwS s D tc aC aM H locs h k → W p l e room_1 s m #[Value.ref b] below meth c H locs cells slots Q (F0 m 1268 lsA [])
def lwV (y z : Int32) : Int64 := (y.toInt64 <<< ((32 : Int32).toInt64 &&& 63)) ||| (z.toInt64 &&& 4294967295)
section
variable {p : Program} {l : Launch} {e : Env} {s : State} {m : MethodId} {below : List Frame} {meth : Method} {c : Code} {b L : Nat} {xs : Nat → Int32} {H : Heap} {locs : List Loc} {cells slots : Nat} {Q : State → Prop} {D : va_G} {tc : Nat → ClassId} {aC aM : Nat → Nat} {lsA : Array Slot} {pc : Nat} {rest : List Value} {h k : xH} {i : Nat}
theorem l_wl {V0 V : Int64} (hv : V0 = V) (kk : W p l e room_1 s m #[Value.ref b] below meth c H locs cells slots Q (F0 m pc lsA (.long (Int64.ofInt V.toInt) :: rest))) : W p l e room_1 s m #[Value.ref b] below meth c H locs cells slots Q (F0 m pc lsA (.long V0 :: rest)) := by
  subst hv
  rw [Int64.ofInt_toInt] at kk
  exact kk
set_option maxRecDepth 20000 in
theorem lwL_X7_loom : lwL mX7_loom 1 13 := ⟨⟨tblG_m2 74 rfl rfl, tblG_m1 1 rfl rfl, by decide +kernel, by decide, ⟨by decide +kernel, by decide +kernel, by decide +kernel⟩, tblG_m2 71 rfl rfl⟩, tblG_m2 72 rfl rfl, tblG_m2 73 rfl rfl⟩
set_option maxRecDepth 20000 in
theorem lwL_X8_loom : lwL mX8_loom 1 17 := ⟨⟨tblG_m5 91 rfl rfl, tblG_m1 9 rfl rfl, by decide +kernel, by decide, ⟨by decide +kernel, by decide +kernel, by decide +kernel⟩, tblG_m5 88 rfl rfl⟩, tblG_m5 89 rfl rfl, tblG_m5 90 rfl rfl⟩
set_option maxRecDepth 20000 in
theorem lwL_X7_pin : lwL mX7_pin 3 18 := ⟨⟨tblG_m2 78 rfl rfl, tblG_m1 1 rfl rfl, by decide +kernel, by decide, ⟨by decide +kernel, by decide +kernel, by decide +kernel⟩, tblG_m2 75 rfl rfl⟩, tblG_m2 76 rfl rfl, tblG_m2 77 rfl rfl⟩
set_option maxRecDepth 20000 in
theorem lwL_X8_pin : lwL mX8_pin 3 22 := ⟨⟨tblG_m5 100 rfl rfl, tblG_m1 9 rfl rfl, by decide +kernel, by decide, ⟨by decide +kernel, by decide +kernel, by decide +kernel⟩, tblG_m5 97 rfl rfl⟩, tblG_m5 98 rfl rfl, tblG_m5 99 rfl rfl⟩
set_option maxRecDepth 20000 in
theorem lwL_X7_drop : lwL mX7_drop 0 23 := ⟨⟨tblG_m2 103 rfl rfl, tblG_m1 1 rfl rfl, by decide +kernel, by decide, ⟨by decide +kernel, by decide +kernel, by decide +kernel⟩, tblG_m2 100 rfl rfl⟩, tblG_m2 101 rfl rfl, tblG_m2 102 rfl rfl⟩
set_option maxRecDepth 20000 in
theorem lwL_X8_drop : lwL mX8_drop 0 27 := ⟨⟨tblG_m5 110 rfl rfl, tblG_m1 9 rfl rfl, by decide +kernel, by decide, ⟨by decide +kernel, by decide +kernel, by decide +kernel⟩, tblG_m5 107 rfl rfl⟩, tblG_m5 108 rfl rfl, tblG_m5 109 rfl rfl⟩
set_option maxRecDepth 20000 in
theorem lwL_X7_stitch : lwL mX7_stitch 2 28 := ⟨⟨tblG_m2 107 rfl rfl, tblG_m1 1 rfl rfl, by decide +kernel, by decide, ⟨by decide +kernel, by decide +kernel, by decide +kernel⟩, tblG_m2 104 rfl rfl⟩, tblG_m2 105 rfl rfl, tblG_m2 106 rfl rfl⟩
set_option maxRecDepth 20000 in
theorem lwL_X8_stitch : lwL mX8_stitch 2 32 := ⟨⟨tblG_m5 114 rfl rfl, tblG_m1 9 rfl rfl, by decide +kernel, by decide, ⟨by decide +kernel, by decide +kernel, by decide +kernel⟩, tblG_m5 111 rfl rfl⟩, tblG_m5 112 rfl rfl, tblG_m5 113 rfl rfl⟩
set_option maxRecDepth 20000 in
theorem lwL_X7_of : lwL mX7_of 2 33 := ⟨⟨tblG_m2 115 rfl rfl, tblG_m1 1 rfl rfl, by decide +kernel, by decide, ⟨by decide +kernel, by decide +kernel, by decide +kernel⟩, tblG_m2 112 rfl rfl⟩, tblG_m2 113 rfl rfl, tblG_m2 114 rfl rfl⟩
set_option maxRecDepth 20000 in
theorem lwL_X8_of : lwL mX8_of 2 36 := ⟨⟨tblG_m5 162 rfl rfl, tblG_m1 9 rfl rfl, by decide +kernel, by decide, ⟨by decide +kernel, by decide +kernel, by decide +kernel⟩, tblG_m5 159 rfl rfl⟩, tblG_m5 160 rfl rfl, tblG_m5 161 rfl rfl⟩
set_option maxRecDepth 20000 in
theorem lwL_X7_fill : lwL mX7_fill 2 37 := ⟨⟨tblG_m2 166 rfl rfl, tblG_m1 1 rfl rfl, by decide +kernel, by decide, ⟨by decide +kernel, by decide +kernel, by decide +kernel⟩, tblG_m2 163 rfl rfl⟩, tblG_m2 164 rfl rfl, tblG_m2 165 rfl rfl⟩
set_option maxRecDepth 20000 in
theorem lwL_X8_fill : lwL mX8_fill 2 41 := ⟨⟨tblG_m5 126 rfl rfl, tblG_m1 9 rfl rfl, by decide +kernel, by decide, ⟨by decide +kernel, by decide +kernel, by decide +kernel⟩, tblG_m5 123 rfl rfl⟩, tblG_m5 124 rfl rfl, tblG_m5 125 rfl rfl⟩
set_option maxRecDepth 20000 in
theorem lwL_X7_turn : lwL mX7_turn 2 42 := ⟨⟨tblG_m2 178 rfl rfl, tblG_m1 1 rfl rfl, by decide +kernel, by decide, ⟨by decide +kernel, by decide +kernel, by decide +kernel⟩, tblG_m2 175 rfl rfl⟩, tblG_m2 176 rfl rfl, tblG_m2 177 rfl rfl⟩
set_option maxRecDepth 20000 in
theorem lwL_X8_turn : lwL mX8_turn 2 45 := ⟨⟨tblG_m5 134 rfl rfl, tblG_m1 9 rfl rfl, by decide +kernel, by decide, ⟨by decide +kernel, by decide +kernel, by decide +kernel⟩, tblG_m5 131 rfl rfl⟩, tblG_m5 132 rfl rfl, tblG_m5 133 rfl rfl⟩
set_option maxRecDepth 20000 in
theorem lwL_X7_filled : lwL mX7_filled 2 46 := ⟨⟨tblG_m2 201 rfl rfl, tblG_m1 1 rfl rfl, by decide +kernel, by decide, ⟨by decide +kernel, by decide +kernel, by decide +kernel⟩, tblG_m2 198 rfl rfl⟩, tblG_m2 199 rfl rfl, tblG_m2 200 rfl rfl⟩
set_option maxRecDepth 20000 in
theorem lwL_X8_filled : lwL mX8_filled 2 49 := ⟨⟨tblG_m5 138 rfl rfl, tblG_m1 9 rfl rfl, by decide +kernel, by decide, ⟨by decide +kernel, by decide +kernel, by decide +kernel⟩, tblG_m5 135 rfl rfl⟩, tblG_m5 136 rfl rfl, tblG_m5 137 rfl rfl⟩
set_option maxRecDepth 20000 in
theorem lwL_X7_mirror : lwL mX7_mirror 0 50 := ⟨⟨tblG_m2 206 rfl rfl, tblG_m1 1 rfl rfl, by decide +kernel, by decide, ⟨by decide +kernel, by decide +kernel, by decide +kernel⟩, tblG_m2 203 rfl rfl⟩, tblG_m2 204 rfl rfl, tblG_m2 205 rfl rfl⟩
set_option maxRecDepth 20000 in
theorem lwL_X8_mirror : lwL mX8_mirror 0 53 := ⟨⟨tblG_m5 146 rfl rfl, tblG_m1 9 rfl rfl, by decide +kernel, by decide, ⟨by decide +kernel, by decide +kernel, by decide +kernel⟩, tblG_m5 143 rfl rfl⟩, tblG_m5 144 rfl rfl, tblG_m5 145 rfl rfl⟩
set_option maxRecDepth 20000 in
theorem lwL_X7_even : lwL mX7_even 0 54 := ⟨⟨tblG_m2 222 rfl rfl, tblG_m1 1 rfl rfl, by decide +kernel, by decide, ⟨by decide +kernel, by decide +kernel, by decide +kernel⟩, tblG_m2 219 rfl rfl⟩, tblG_m2 220 rfl rfl, tblG_m2 221 rfl rfl⟩
set_option maxRecDepth 20000 in
theorem lwL_X8_even : lwL mX8_even 0 57 := ⟨⟨tblG_m5 150 rfl rfl, tblG_m1 9 rfl rfl, by decide +kernel, by decide, ⟨by decide +kernel, by decide +kernel, by decide +kernel⟩, tblG_m5 147 rfl rfl⟩, tblG_m5 148 rfl rfl, tblG_m5 149 rfl rfl⟩
set_option maxRecDepth 20000 in
theorem lwL_X7_needs : lwL mX7_needs 2 58 := ⟨⟨tblG_m2 234 rfl rfl, tblG_m1 1 rfl rfl, by decide +kernel, by decide, ⟨by decide +kernel, by decide +kernel, by decide +kernel⟩, tblG_m2 231 rfl rfl⟩, tblG_m2 232 rfl rfl, tblG_m2 233 rfl rfl⟩
set_option maxRecDepth 20000 in
theorem lwL_X8_needs : lwL mX8_needs 2 62 := ⟨⟨tblG_m5 183 rfl rfl, tblG_m1 9 rfl rfl, by decide +kernel, by decide, ⟨by decide +kernel, by decide +kernel, by decide +kernel⟩, tblG_m5 180 rfl rfl⟩, tblG_m5 181 rfl rfl, tblG_m5 182 rfl rfl⟩
set_option maxRecDepth 20000 in
theorem lwL_X7_pins : lwL mX7_pins 1 63 := ⟨⟨tblG_m3 4 rfl rfl, tblG_m1 1 rfl rfl, by decide +kernel, by decide, ⟨by decide +kernel, by decide +kernel, by decide +kernel⟩, tblG_m3 1 rfl rfl⟩, tblG_m3 2 rfl rfl, tblG_m3 3 rfl rfl⟩
set_option maxRecDepth 20000 in
theorem lwL_X8_pins : lwL mX8_pins 1 67 := ⟨⟨tblG_m5 188 rfl rfl, tblG_m1 9 rfl rfl, by decide +kernel, by decide, ⟨by decide +kernel, by decide +kernel, by decide +kernel⟩, tblG_m5 185 rfl rfl⟩, tblG_m5 186 rfl rfl, tblG_m5 187 rfl rfl⟩
set_option maxRecDepth 20000 in
theorem lwL_X7_deepest : lwL mX7_deepest 0 68 := ⟨⟨tblG_m3 18 rfl rfl, tblG_m1 1 rfl rfl, by decide +kernel, by decide, ⟨by decide +kernel, by decide +kernel, by decide +kernel⟩, tblG_m3 15 rfl rfl⟩, tblG_m3 16 rfl rfl, tblG_m3 17 rfl rfl⟩
set_option maxRecDepth 20000 in
theorem lwL_X8_deepest : lwL mX8_deepest 0 71 := ⟨⟨tblG_m5 201 rfl rfl, tblG_m1 9 rfl rfl, by decide +kernel, by decide, ⟨by decide +kernel, by decide +kernel, by decide +kernel⟩, tblG_m5 198 rfl rfl⟩, tblG_m5 199 rfl rfl, tblG_m5 200 rfl rfl⟩
set_option maxRecDepth 20000 in
theorem lwL_X7_work : lwL mX7_work 1 72 := ⟨⟨tblG_m3 23 rfl rfl, tblG_m1 1 rfl rfl, by decide +kernel, by decide, ⟨by decide +kernel, by decide +kernel, by decide +kernel⟩, tblG_m3 20 rfl rfl⟩, tblG_m3 21 rfl rfl, tblG_m3 22 rfl rfl⟩
set_option maxRecDepth 20000 in
theorem lwL_X8_work : lwL mX8_work 1 75 := ⟨⟨tblG_m5 205 rfl rfl, tblG_m1 9 rfl rfl, by decide +kernel, by decide, ⟨by decide +kernel, by decide +kernel, by decide +kernel⟩, tblG_m5 202 rfl rfl⟩, tblG_m5 203 rfl rfl, tblG_m5 204 rfl rfl⟩
set_option maxRecDepth 20000 in
theorem lwL_X7_workAll : lwL mX7_workAll 0 76 := ⟨⟨tblG_m3 50 rfl rfl, tblG_m1 1 rfl rfl, by decide +kernel, by decide, ⟨by decide +kernel, by decide +kernel, by decide +kernel⟩, tblG_m3 47 rfl rfl⟩, tblG_m3 48 rfl rfl, tblG_m3 49 rfl rfl⟩
set_option maxRecDepth 20000 in
theorem lwL_X8_workAll : lwL mX8_workAll 0 79 := ⟨⟨tblG_m5 229 rfl rfl, tblG_m1 9 rfl rfl, by decide +kernel, by decide, ⟨by decide +kernel, by decide +kernel, by decide +kernel⟩, tblG_m5 226 rfl rfl⟩, tblG_m5 227 rfl rfl, tblG_m5 228 rfl rfl⟩
set_option maxRecDepth 20000 in
theorem lwL_X7_undo : lwL mX7_undo 0 80 := ⟨⟨tblG_m3 63 rfl rfl, tblG_m1 1 rfl rfl, by decide +kernel, by decide, ⟨by decide +kernel, by decide +kernel, by decide +kernel⟩, tblG_m3 60 rfl rfl⟩, tblG_m3 61 rfl rfl, tblG_m3 62 rfl rfl⟩
set_option maxRecDepth 20000 in
theorem lwL_X8_undo : lwL mX8_undo 0 83 := ⟨⟨tblG_m5 233 rfl rfl, tblG_m1 9 rfl rfl, by decide +kernel, by decide, ⟨by decide +kernel, by decide +kernel, by decide +kernel⟩, tblG_m5 230 rfl rfl⟩, tblG_m5 231 rfl rfl, tblG_m5 232 rfl rfl⟩
set_option maxRecDepth 20000 in
theorem lwL_X7_thread : lwL mX7_thread 2 84 := ⟨⟨tblG_m3 80 rfl rfl, tblG_m1 1 rfl rfl, by decide +kernel, by decide, ⟨by decide +kernel, by decide +kernel, by decide +kernel⟩, tblG_m3 77 rfl rfl⟩, tblG_m3 78 rfl rfl, tblG_m3 79 rfl rfl⟩
set_option maxRecDepth 20000 in
theorem lwL_X8_thread : lwL mX8_thread 2 87 := ⟨⟨tblG_m5 237 rfl rfl, tblG_m1 9 rfl rfl, by decide +kernel, by decide, ⟨by decide +kernel, by decide +kernel, by decide +kernel⟩, tblG_m5 234 rfl rfl⟩, tblG_m5 235 rfl rfl, tblG_m5 236 rfl rfl⟩
set_option maxRecDepth 20000 in
theorem lwL_X7_where : lwL mX7_where 1 88 := ⟨⟨tblG_m3 84 rfl rfl, tblG_m1 1 rfl rfl, by decide +kernel, by decide, ⟨by decide +kernel, by decide +kernel, by decide +kernel⟩, tblG_m3 81 rfl rfl⟩, tblG_m3 82 rfl rfl, tblG_m3 83 rfl rfl⟩
set_option maxRecDepth 20000 in
theorem lwL_X8_where : lwL mX8_where 1 91 := ⟨⟨tblG_m6 1 rfl rfl, tblG_m1 9 rfl rfl, by decide +kernel, by decide, ⟨by decide +kernel, by decide +kernel, by decide +kernel⟩, tblG_m5 238 rfl rfl⟩, tblG_m5 239 rfl rfl, tblG_m6 0 rfl rfl⟩
set_option maxRecDepth 20000 in
theorem lwL_X7_overs : lwL mX7_overs 1 92 := ⟨⟨tblG_m3 92 rfl rfl, tblG_m1 1 rfl rfl, by decide +kernel, by decide, ⟨by decide +kernel, by decide +kernel, by decide +kernel⟩, tblG_m3 89 rfl rfl⟩, tblG_m3 90 rfl rfl, tblG_m3 91 rfl rfl⟩
set_option maxRecDepth 20000 in
theorem lwL_X8_overs : lwL mX8_overs 1 95 := ⟨⟨tblG_m6 9 rfl rfl, tblG_m1 9 rfl rfl, by decide +kernel, by decide, ⟨by decide +kernel, by decide +kernel, by decide +kernel⟩, tblG_m6 6 rfl rfl⟩, tblG_m6 7 rfl rfl, tblG_m6 8 rfl rfl⟩
set_option maxRecDepth 20000 in
theorem lwL_X7_acts : lwL mX7_acts 1 96 := ⟨⟨tblG_m3 96 rfl rfl, tblG_m1 1 rfl rfl, by decide +kernel, by decide, ⟨by decide +kernel, by decide +kernel, by decide +kernel⟩, tblG_m3 93 rfl rfl⟩, tblG_m3 94 rfl rfl, tblG_m3 95 rfl rfl⟩
set_option maxRecDepth 20000 in
theorem lwL_X8_acts : lwL mX8_acts 1 99 := ⟨⟨tblG_m6 13 rfl rfl, tblG_m1 9 rfl rfl, by decide +kernel, by decide, ⟨by decide +kernel, by decide +kernel, by decide +kernel⟩, tblG_m6 10 rfl rfl⟩, tblG_m6 11 rfl rfl, tblG_m6 12 rfl rfl⟩
set_option maxRecDepth 20000 in
theorem lwL_X7_hand : lwL mX7_hand 1 100 := ⟨⟨tblG_m3 105 rfl rfl, tblG_m1 1 rfl rfl, by decide +kernel, by decide, ⟨by decide +kernel, by decide +kernel, by decide +kernel⟩, tblG_m3 102 rfl rfl⟩, tblG_m3 103 rfl rfl, tblG_m3 104 rfl rfl⟩
set_option maxRecDepth 20000 in
theorem lwL_X8_hand : lwL mX8_hand 1 103 := ⟨⟨tblG_m6 17 rfl rfl, tblG_m1 9 rfl rfl, by decide +kernel, by decide, ⟨by decide +kernel, by decide +kernel, by decide +kernel⟩, tblG_m6 14 rfl rfl⟩, tblG_m6 15 rfl rfl, tblG_m6 16 rfl rfl⟩
set_option maxRecDepth 20000 in
theorem lwL_X7_orders : lwL mX7_orders 0 104 := ⟨⟨tblG_m3 109 rfl rfl, tblG_m1 1 rfl rfl, by decide +kernel, by decide, ⟨by decide +kernel, by decide +kernel, by decide +kernel⟩, tblG_m3 106 rfl rfl⟩, tblG_m3 107 rfl rfl, tblG_m3 108 rfl rfl⟩
set_option maxRecDepth 20000 in
theorem lwL_X8_orders : lwL mX8_orders 0 108 := ⟨⟨tblG_m6 21 rfl rfl, tblG_m1 9 rfl rfl, by decide +kernel, by decide, ⟨by decide +kernel, by decide +kernel, by decide +kernel⟩, tblG_m6 18 rfl rfl⟩, tblG_m6 19 rfl rfl, tblG_m6 20 rfl rfl⟩
set_option maxRecDepth 20000 in
theorem lwL_X7_order : lwL mX7_order 2 111 := ⟨⟨tblG_m3 147 rfl rfl, tblG_m1 1 rfl rfl, by decide +kernel, by decide, ⟨by decide +kernel, by decide +kernel, by decide +kernel⟩, tblG_m3 144 rfl rfl⟩, tblG_m3 145 rfl rfl, tblG_m3 146 rfl rfl⟩
set_option maxRecDepth 20000 in
theorem lwL_X8_order : lwL mX8_order 2 115 := ⟨⟨tblG_m6 47 rfl rfl, tblG_m1 9 rfl rfl, by decide +kernel, by decide, ⟨by decide +kernel, by decide +kernel, by decide +kernel⟩, tblG_m6 44 rfl rfl⟩, tblG_m6 45 rfl rfl, tblG_m6 46 rfl rfl⟩
set_option maxRecDepth 20000 in
theorem lwL_X7_travel : lwL mX7_travel 0 116 := ⟨⟨tblG_m3 155 rfl rfl, tblG_m1 1 rfl rfl, by decide +kernel, by decide, ⟨by decide +kernel, by decide +kernel, by decide +kernel⟩, tblG_m3 152 rfl rfl⟩, tblG_m3 153 rfl rfl, tblG_m3 154 rfl rfl⟩
set_option maxRecDepth 20000 in
theorem lwL_X8_travel : lwL mX8_travel 0 119 := ⟨⟨tblG_m6 51 rfl rfl, tblG_m1 9 rfl rfl, by decide +kernel, by decide, ⟨by decide +kernel, by decide +kernel, by decide +kernel⟩, tblG_m6 48 rfl rfl⟩, tblG_m6 49 rfl rfl, tblG_m6 50 rfl rfl⟩
set_option maxRecDepth 20000 in
theorem lwL_X7_along : lwL mX7_along 1 120 := ⟨⟨tblG_m3 173 rfl rfl, tblG_m1 1 rfl rfl, by decide +kernel, by decide, ⟨by decide +kernel, by decide +kernel, by decide +kernel⟩, tblG_m3 170 rfl rfl⟩, tblG_m3 171 rfl rfl, tblG_m3 172 rfl rfl⟩
set_option maxRecDepth 20000 in
theorem lwL_X8_along : lwL mX8_along 1 123 := ⟨⟨tblG_m6 63 rfl rfl, tblG_m1 9 rfl rfl, by decide +kernel, by decide, ⟨by decide +kernel, by decide +kernel, by decide +kernel⟩, tblG_m6 60 rfl rfl⟩, tblG_m6 61 rfl rfl, tblG_m6 62 rfl rfl⟩
set_option maxRecDepth 20000 in
theorem lwL_X7_pairs : lwL mX7_pairs 1 124 := ⟨⟨tblG_m3 186 rfl rfl, tblG_m1 1 rfl rfl, by decide +kernel, by decide, ⟨by decide +kernel, by decide +kernel, by decide +kernel⟩, tblG_m3 183 rfl rfl⟩, tblG_m3 184 rfl rfl, tblG_m3 185 rfl rfl⟩
set_option maxRecDepth 20000 in
theorem lwL_X8_pairs : lwL mX8_pairs 1 127 := ⟨⟨tblG_m6 67 rfl rfl, tblG_m1 9 rfl rfl, by decide +kernel, by decide, ⟨by decide +kernel, by decide +kernel, by decide +kernel⟩, tblG_m6 64 rfl rfl⟩, tblG_m6 65 rfl rfl, tblG_m6 66 rfl rfl⟩
set_option maxRecDepth 20000 in
theorem lwL_X7_hang : lwL mX7_hang 2 128 := ⟨⟨tblG_m4 5 rfl rfl, tblG_m1 1 rfl rfl, by decide +kernel, by decide, ⟨by decide +kernel, by decide +kernel, by decide +kernel⟩, tblG_m4 2 rfl rfl⟩, tblG_m4 3 rfl rfl, tblG_m4 4 rfl rfl⟩
set_option maxRecDepth 20000 in
theorem lwL_X8_hang : lwL mX8_hang 2 131 := ⟨⟨tblG_m6 83 rfl rfl, tblG_m1 9 rfl rfl, by decide +kernel, by decide, ⟨by decide +kernel, by decide +kernel, by decide +kernel⟩, tblG_m6 80 rfl rfl⟩, tblG_m6 81 rfl rfl, tblG_m6 82 rfl rfl⟩
set_option maxRecDepth 20000 in
theorem lwL_X7_draft : lwL mX7_draft 1 132 := ⟨⟨tblG_m4 14 rfl rfl, tblG_m1 1 rfl rfl, by decide +kernel, by decide, ⟨by decide +kernel, by decide +kernel, by decide +kernel⟩, tblG_m4 11 rfl rfl⟩, tblG_m4 12 rfl rfl, tblG_m4 13 rfl rfl⟩
set_option maxRecDepth 20000 in
theorem lwL_X8_draft : lwL mX8_draft 1 135 := ⟨⟨tblG_m6 87 rfl rfl, tblG_m1 9 rfl rfl, by decide +kernel, by decide, ⟨by decide +kernel, by decide +kernel, by decide +kernel⟩, tblG_m6 84 rfl rfl⟩, tblG_m6 85 rfl rfl, tblG_m6 86 rfl rfl⟩
set_option maxRecDepth 20000 in
theorem lwL_X7_paper : lwL mX7_paper 1 136 := ⟨⟨tblG_m4 22 rfl rfl, tblG_m1 1 rfl rfl, by decide +kernel, by decide, ⟨by decide +kernel, by decide +kernel, by decide +kernel⟩, tblG_m4 19 rfl rfl⟩, tblG_m4 20 rfl rfl, tblG_m4 21 rfl rfl⟩
set_option maxRecDepth 20000 in
theorem lwL_X8_paper : lwL mX8_paper 1 139 := ⟨⟨tblG_m6 91 rfl rfl, tblG_m1 9 rfl rfl, by decide +kernel, by decide, ⟨by decide +kernel, by decide +kernel, by decide +kernel⟩, tblG_m6 88 rfl rfl⟩, tblG_m6 89 rfl rfl, tblG_m6 90 rfl rfl⟩
set_option maxRecDepth 20000 in
theorem lwL_X7_lay : lwL mX7_lay 2 140 := ⟨⟨tblG_m4 26 rfl rfl, tblG_m1 1 rfl rfl, by decide +kernel, by decide, ⟨by decide +kernel, by decide +kernel, by decide +kernel⟩, tblG_m4 23 rfl rfl⟩, tblG_m4 24 rfl rfl, tblG_m4 25 rfl rfl⟩
set_option maxRecDepth 20000 in
theorem lwL_X8_lay : lwL mX8_lay 2 143 := ⟨⟨tblG_m6 95 rfl rfl, tblG_m1 9 rfl rfl, by decide +kernel, by decide, ⟨by decide +kernel, by decide +kernel, by decide +kernel⟩, tblG_m6 92 rfl rfl⟩, tblG_m6 93 rfl rfl, tblG_m6 94 rfl rfl⟩
set_option maxRecDepth 20000 in
theorem lwL_X7_seen : lwL mX7_seen 3 144 := ⟨⟨tblG_m4 42 rfl rfl, tblG_m1 1 rfl rfl, by decide +kernel, by decide, ⟨by decide +kernel, by decide +kernel, by decide +kernel⟩, tblG_m4 39 rfl rfl⟩, tblG_m4 40 rfl rfl, tblG_m4 41 rfl rfl⟩
set_option maxRecDepth 20000 in
theorem lwL_X8_seen : lwL mX8_seen 3 147 := ⟨⟨tblG_m6 103 rfl rfl, tblG_m1 9 rfl rfl, by decide +kernel, by decide, ⟨by decide +kernel, by decide +kernel, by decide +kernel⟩, tblG_m6 100 rfl rfl⟩, tblG_m6 101 rfl rfl, tblG_m6 102 rfl rfl⟩
set_option maxRecDepth 20000 in
theorem lwL_X7_feed : lwL mX7_feed 1 148 := ⟨⟨tblG_m4 54 rfl rfl, tblG_m1 1 rfl rfl, by decide +kernel, by decide, ⟨by decide +kernel, by decide +kernel, by decide +kernel⟩, tblG_m4 51 rfl rfl⟩, tblG_m4 52 rfl rfl, tblG_m4 53 rfl rfl⟩
set_option maxRecDepth 20000 in
theorem lwL_X8_feed : lwL mX8_feed 1 151 := ⟨⟨tblG_m6 107 rfl rfl, tblG_m1 9 rfl rfl, by decide +kernel, by decide, ⟨by decide +kernel, by decide +kernel, by decide +kernel⟩, tblG_m6 104 rfl rfl⟩, tblG_m6 105 rfl rfl, tblG_m6 106 rfl rfl⟩
set_option maxRecDepth 20000 in
theorem lwL_X7_clear : lwL mX7_clear 0 152 := ⟨⟨tblG_m4 62 rfl rfl, tblG_m1 1 rfl rfl, by decide +kernel, by decide, ⟨by decide +kernel, by decide +kernel, by decide +kernel⟩, tblG_m4 59 rfl rfl⟩, tblG_m4 60 rfl rfl, tblG_m4 61 rfl rfl⟩
set_option maxRecDepth 20000 in
theorem lwL_X8_clear : lwL mX8_clear 0 155 := ⟨⟨tblG_m6 112 rfl rfl, tblG_m1 9 rfl rfl, by decide +kernel, by decide, ⟨by decide +kernel, by decide +kernel, by decide +kernel⟩, tblG_m6 109 rfl rfl⟩, tblG_m6 110 rfl rfl, tblG_m6 111 rfl rfl⟩
set_option maxRecDepth 20000 in
theorem lwL_X7_pricking : lwL mX7_pricking 0 156 := ⟨⟨tblG_m4 66 rfl rfl, tblG_m1 1 rfl rfl, by decide +kernel, by decide, ⟨by decide +kernel, by decide +kernel, by decide +kernel⟩, tblG_m4 63 rfl rfl⟩, tblG_m4 64 rfl rfl, tblG_m4 65 rfl rfl⟩
set_option maxRecDepth 20000 in
theorem lwL_X8_pricking : lwL mX8_pricking 0 159 := ⟨⟨tblG_m6 116 rfl rfl, tblG_m1 9 rfl rfl, by decide +kernel, by decide, ⟨by decide +kernel, by decide +kernel, by decide +kernel⟩, tblG_m6 113 rfl rfl⟩, tblG_m6 114 rfl rfl, tblG_m6 115 rfl rfl⟩
set_option maxRecDepth 20000 in
theorem lwL_X7_list : lwL mX7_list 2 160 := ⟨⟨tblG_m4 185 rfl rfl, tblG_m1 1 rfl rfl, by decide +kernel, by decide, ⟨by decide +kernel, by decide +kernel, by decide +kernel⟩, tblG_m4 182 rfl rfl⟩, tblG_m4 183 rfl rfl, tblG_m4 184 rfl rfl⟩
set_option maxRecDepth 20000 in
theorem lwL_X8_list : lwL mX8_list 2 163 := ⟨⟨tblG_m6 154 rfl rfl, tblG_m1 9 rfl rfl, by decide +kernel, by decide, ⟨by decide +kernel, by decide +kernel, by decide +kernel⟩, tblG_m6 151 rfl rfl⟩, tblG_m6 152 rfl rfl, tblG_m6 153 rfl rfl⟩
set_option maxRecDepth 20000 in
theorem lwL_X7_set : lwL mX7_set 3 164 := ⟨⟨tblG_m4 194 rfl rfl, tblG_m1 1 rfl rfl, by decide +kernel, by decide, ⟨by decide +kernel, by decide +kernel, by decide +kernel⟩, tblG_m4 191 rfl rfl⟩, tblG_m4 192 rfl rfl, tblG_m4 193 rfl rfl⟩
set_option maxRecDepth 20000 in
theorem lwL_X8_set : lwL mX8_set 3 168 := ⟨⟨tblG_m6 158 rfl rfl, tblG_m1 9 rfl rfl, by decide +kernel, by decide, ⟨by decide +kernel, by decide +kernel, by decide +kernel⟩, tblG_m6 155 rfl rfl⟩, tblG_m6 156 rfl rfl, tblG_m6 157 rfl rfl⟩
set_option maxRecDepth 20000 in
theorem lwL_X7_get : lwL mX7_get 2 169 := ⟨⟨tblG_m4 202 rfl rfl, tblG_m1 1 rfl rfl, by decide +kernel, by decide, ⟨by decide +kernel, by decide +kernel, by decide +kernel⟩, tblG_m4 199 rfl rfl⟩, tblG_m4 200 rfl rfl, tblG_m4 201 rfl rfl⟩
set_option maxRecDepth 20000 in
theorem lwL_X8_get : lwL mX8_get 2 172 := ⟨⟨tblG_m6 162 rfl rfl, tblG_m1 9 rfl rfl, by decide +kernel, by decide, ⟨by decide +kernel, by decide +kernel, by decide +kernel⟩, tblG_m6 159 rfl rfl⟩, tblG_m6 160 rfl rfl, tblG_m6 161 rfl rfl⟩
set_option maxRecDepth 20000 in
theorem lwL_X7_count : lwL mX7_count 1 173 := ⟨⟨tblG_m4 206 rfl rfl, tblG_m1 1 rfl rfl, by decide +kernel, by decide, ⟨by decide +kernel, by decide +kernel, by decide +kernel⟩, tblG_m4 203 rfl rfl⟩, tblG_m4 204 rfl rfl, tblG_m4 205 rfl rfl⟩
set_option maxRecDepth 20000 in
theorem lwL_X8_count : lwL mX8_count 1 176 := ⟨⟨tblG_m6 166 rfl rfl, tblG_m1 9 rfl rfl, by decide +kernel, by decide, ⟨by decide +kernel, by decide +kernel, by decide +kernel⟩, tblG_m6 163 rfl rfl⟩, tblG_m6 164 rfl rfl, tblG_m6 165 rfl rfl⟩
set_option maxRecDepth 20000 in
theorem lwL_X7_image : lwL mX7_image 0 177 := ⟨⟨tblG_m4 215 rfl rfl, tblG_m1 1 rfl rfl, by decide +kernel, by decide, ⟨by decide +kernel, by decide +kernel, by decide +kernel⟩, tblG_m4 212 rfl rfl⟩, tblG_m4 213 rfl rfl, tblG_m4 214 rfl rfl⟩
set_option maxRecDepth 20000 in
theorem lwL_X8_image : lwL mX8_image 0 180 := ⟨⟨tblG_m6 170 rfl rfl, tblG_m1 9 rfl rfl, by decide +kernel, by decide, ⟨by decide +kernel, by decide +kernel, by decide +kernel⟩, tblG_m6 167 rfl rfl⟩, tblG_m6 168 rfl rfl, tblG_m6 169 rfl rfl⟩
set_option maxRecDepth 20000 in
theorem lwL_X7_restore : lwL mX7_restore 0 181 := ⟨⟨tblG_m4 224 rfl rfl, tblG_m1 1 rfl rfl, by decide +kernel, by decide, ⟨by decide +kernel, by decide +kernel, by decide +kernel⟩, tblG_m4 221 rfl rfl⟩, tblG_m4 222 rfl rfl, tblG_m4 223 rfl rfl⟩
set_option maxRecDepth 20000 in
theorem lwL_X8_restore : lwL mX8_restore 0 184 := ⟨⟨tblG_m6 174 rfl rfl, tblG_m1 9 rfl rfl, by decide +kernel, by decide, ⟨by decide +kernel, by decide +kernel, by decide +kernel⟩, tblG_m6 171 rfl rfl⟩, tblG_m6 172 rfl rfl, tblG_m6 173 rfl rfl⟩
theorem lc_0 (F : lwF p s m meth c b L xs D tc aC aM) (S : lwS s D tc aC aM H locs h k) (hl : lwLs lsA b (aC 0) (aM 0) i) (hi : i + 5 ≤ L) (hcs : cells ≤ room_1.cells ∧ slots ≤ room_1.slots) (hR : Rel h k) (kk : lwKK p l e s m below meth c b D tc aC aM cells slots Q lsA) : W p l e room_1 s m #[Value.ref b] below meth c H locs cells slots Q (F0 m 208 lsA []) := by
  obtain ⟨hx, hb, hml, hlk, hret, hown, hts, -⟩ := id F
  obtain ⟨r, PC, PM, hr0, hc0, hm0, hrel⟩ := A_loom ((xs (i + 1)).toInt) (lw_inI _) h k hR
  refine lv_aload_n hx hb (show decode code 208 = .ok (.aload_n 1, 1) by decide +kernel) rfl (lv_at hl 1 rfl) ?_
  refine l_arg (pc := 209) (n := 1) F S hl hi (by decide) (show decode code 209 = .ok (.aload_n 0, 1) by decide +kernel) (show decode code 210 = .ok (.iload_n 3, 1) by decide +kernel) (show decode code 211 = .ok (.iconst 1, 1) by decide +kernel) (show decode code 212 = .ok (.iadd, 1) by decide +kernel) (show decode code 213 = .ok (.iaload, 1) by decide +kernel) ?_
  refine l_callC (pc := 214) (as := [.inl (xs (i + 1)).toInt]) (rest := []) F S hl.1 hcs lwL_X7_loom rfl (Nat.le_of_ble_eq_true rfl) (Nat.le_of_ble_eq_true rfl) (show decode code 214 = .ok (.invokevirtual 13, 3) by decide +kernel) hc0 (fun H locs h1 hPC S => ?_)
  refine lv_aload_n hx hb (show decode code 217 = .ok (.aload_n 2, 1) by decide +kernel) rfl (lv_at hl 2 rfl) ?_
  refine l_arg (pc := 218) (n := 1) F S hl hi (by decide) (show decode code 218 = .ok (.aload_n 0, 1) by decide +kernel) (show decode code 219 = .ok (.iload_n 3, 1) by decide +kernel) (show decode code 220 = .ok (.iconst 1, 1) by decide +kernel) (show decode code 221 = .ok (.iadd, 1) by decide +kernel) (show decode code 222 = .ok (.iaload, 1) by decide +kernel) ?_
  refine l_callM (pc := 223) (as := [.inl (xs (i + 1)).toInt]) (rest := [.int (Int32.ofInt r)]) F S hl.1 hcs lwL_X8_loom rfl (Nat.le_of_ble_eq_true rfl) (Nat.le_of_ble_eq_true rfl) (show decode code 223 = .ok (.invokevirtual 17, 3) by decide +kernel) hm0 (fun H locs k1 hPM S => ?_)
  exact l_cmpI (pc := 226) hx hb (show decode code 226 = .ok (.if_icmp .eq 1042, 3) by decide +kernel) (by decide) (kk H locs h1 k1 (hrel _ _ hPC hPM) S)
theorem lc_1 (F : lwF p s m meth c b L xs D tc aC aM) (S : lwS s D tc aC aM H locs h k) (hl : lwLs lsA b (aC 0) (aM 0) i) (hi : i + 5 ≤ L) (hcs : cells ≤ room_1.cells ∧ slots ≤ room_1.slots) (hR : Rel h k) (kk : lwKK p l e s m below meth c b D tc aC aM cells slots Q lsA) : W p l e room_1 s m #[Value.ref b] below meth c H locs cells slots Q (F0 m 231 lsA []) := by
  obtain ⟨hx, hb, hml, hlk, hret, hown, hts, -⟩ := id F
  obtain ⟨r, PC, PM, hr0, hc0, hm0, hrel⟩ := A_pin (d := 30) (by decide) ((xs (i + 1)).toInt) ((xs (i + 2)).toInt) ((xs (i + 3)).toInt) (lw_inI _) (lw_inI _) (lw_inI _) h k hR
  refine lv_aload_n hx hb (show decode code 231 = .ok (.aload_n 1, 1) by decide +kernel) rfl (lv_at hl 1 rfl) ?_
  refine l_arg (pc := 232) (n := 1) F S hl hi (by decide) (show decode code 232 = .ok (.aload_n 0, 1) by decide +kernel) (show decode code 233 = .ok (.iload_n 3, 1) by decide +kernel) (show decode code 234 = .ok (.iconst 1, 1) by decide +kernel) (show decode code 235 = .ok (.iadd, 1) by decide +kernel) (show decode code 236 = .ok (.iaload, 1) by decide +kernel) ?_
  refine l_arg (pc := 237) (n := 2) F S hl hi (by decide) (show decode code 237 = .ok (.aload_n 0, 1) by decide +kernel) (show decode code 238 = .ok (.iload_n 3, 1) by decide +kernel) (show decode code 239 = .ok (.iconst 2, 1) by decide +kernel) (show decode code 240 = .ok (.iadd, 1) by decide +kernel) (show decode code 241 = .ok (.iaload, 1) by decide +kernel) ?_
  refine l_arg (pc := 242) (n := 3) F S hl hi (by decide) (show decode code 242 = .ok (.aload_n 0, 1) by decide +kernel) (show decode code 243 = .ok (.iload_n 3, 1) by decide +kernel) (show decode code 244 = .ok (.iconst 3, 1) by decide +kernel) (show decode code 245 = .ok (.iadd, 1) by decide +kernel) (show decode code 246 = .ok (.iaload, 1) by decide +kernel) ?_
  refine l_callC (pc := 247) (as := [.inl (xs (i + 1)).toInt, .inl (xs (i + 2)).toInt, .inl (xs (i + 3)).toInt]) (rest := []) F S hl.1 hcs lwL_X7_pin rfl (Nat.le_of_ble_eq_true rfl) (Nat.le_of_ble_eq_true rfl) (show decode code 247 = .ok (.invokevirtual 18, 3) by decide +kernel) hc0 (fun H locs h1 hPC S => ?_)
  refine lv_aload_n hx hb (show decode code 250 = .ok (.aload_n 2, 1) by decide +kernel) rfl (lv_at hl 2 rfl) ?_
  refine l_arg (pc := 251) (n := 1) F S hl hi (by decide) (show decode code 251 = .ok (.aload_n 0, 1) by decide +kernel) (show decode code 252 = .ok (.iload_n 3, 1) by decide +kernel) (show decode code 253 = .ok (.iconst 1, 1) by decide +kernel) (show decode code 254 = .ok (.iadd, 1) by decide +kernel) (show decode code 255 = .ok (.iaload, 1) by decide +kernel) ?_
  refine l_arg (pc := 256) (n := 2) F S hl hi (by decide) (show decode code 256 = .ok (.aload_n 0, 1) by decide +kernel) (show decode code 257 = .ok (.iload_n 3, 1) by decide +kernel) (show decode code 258 = .ok (.iconst 2, 1) by decide +kernel) (show decode code 259 = .ok (.iadd, 1) by decide +kernel) (show decode code 260 = .ok (.iaload, 1) by decide +kernel) ?_
  refine l_arg (pc := 261) (n := 3) F S hl hi (by decide) (show decode code 261 = .ok (.aload_n 0, 1) by decide +kernel) (show decode code 262 = .ok (.iload_n 3, 1) by decide +kernel) (show decode code 263 = .ok (.iconst 3, 1) by decide +kernel) (show decode code 264 = .ok (.iadd, 1) by decide +kernel) (show decode code 265 = .ok (.iaload, 1) by decide +kernel) ?_
  refine l_callM (pc := 266) (as := [.inl (xs (i + 1)).toInt, .inl (xs (i + 2)).toInt, .inl (xs (i + 3)).toInt]) (rest := [.int (Int32.ofInt r)]) F S hl.1 hcs lwL_X8_pin rfl (Nat.le_of_ble_eq_true rfl) (Nat.le_of_ble_eq_true rfl) (show decode code 266 = .ok (.invokevirtual 22, 3) by decide +kernel) hm0 (fun H locs k1 hPM S => ?_)
  exact l_cmpI (pc := 269) hx hb (show decode code 269 = .ok (.if_icmp .eq 999, 3) by decide +kernel) (by decide) (kk H locs h1 k1 (hrel _ _ hPC hPM) S)
theorem lc_2 (F : lwF p s m meth c b L xs D tc aC aM) (S : lwS s D tc aC aM H locs h k) (hl : lwLs lsA b (aC 0) (aM 0) i) (hi : i + 5 ≤ L) (hcs : cells ≤ room_1.cells ∧ slots ≤ room_1.slots) (hR : Rel h k) (kk : lwKK p l e s m below meth c b D tc aC aM cells slots Q lsA) : W p l e room_1 s m #[Value.ref b] below meth c H locs cells slots Q (F0 m 274 lsA []) := by
  obtain ⟨hx, hb, hml, hlk, hret, hown, hts, -⟩ := id F
  obtain ⟨r, PC, PM, hr0, hc0, hm0, hrel⟩ := A_drop   h k hR
  refine lv_aload_n hx hb (show decode code 274 = .ok (.aload_n 1, 1) by decide +kernel) rfl (lv_at hl 1 rfl) ?_
  refine l_callC (pc := 275) (as := []) (rest := []) F S hl.1 hcs lwL_X7_drop rfl (Nat.le_of_ble_eq_true rfl) (Nat.le_of_ble_eq_true rfl) (show decode code 275 = .ok (.invokevirtual 23, 3) by decide +kernel) hc0 (fun H locs h1 hPC S => ?_)
  refine lv_aload_n hx hb (show decode code 278 = .ok (.aload_n 2, 1) by decide +kernel) rfl (lv_at hl 2 rfl) ?_
  refine l_callM (pc := 279) (as := []) (rest := [.int (Int32.ofInt r)]) F S hl.1 hcs lwL_X8_drop rfl (Nat.le_of_ble_eq_true rfl) (Nat.le_of_ble_eq_true rfl) (show decode code 279 = .ok (.invokevirtual 27, 3) by decide +kernel) hm0 (fun H locs k1 hPM S => ?_)
  exact l_cmpI (pc := 282) hx hb (show decode code 282 = .ok (.if_icmp .eq 986, 3) by decide +kernel) (by decide) (kk H locs h1 k1 (hrel _ _ hPC hPM) S)
theorem lc_3 (F : lwF p s m meth c b L xs D tc aC aM) (S : lwS s D tc aC aM H locs h k) (hl : lwLs lsA b (aC 0) (aM 0) i) (hi : i + 5 ≤ L) (hcs : cells ≤ room_1.cells ∧ slots ≤ room_1.slots) (hR : Rel h k) (kk : lwKK p l e s m below meth c b D tc aC aM cells slots Q lsA) : W p l e room_1 s m #[Value.ref b] below meth c H locs cells slots Q (F0 m 287 lsA []) := by
  obtain ⟨hx, hb, hml, hlk, hret, hown, hts, -⟩ := id F
  obtain ⟨r, PC, PM, hr0, hc0, hm0, hrel⟩ := A_stitch ((xs (i + 1)).toInt) ((xs (i + 2)).toInt) (lw_inI _) (lw_inI _) h k hR
  refine lv_aload_n hx hb (show decode code 287 = .ok (.aload_n 1, 1) by decide +kernel) rfl (lv_at hl 1 rfl) ?_
  refine l_arg (pc := 288) (n := 1) F S hl hi (by decide) (show decode code 288 = .ok (.aload_n 0, 1) by decide +kernel) (show decode code 289 = .ok (.iload_n 3, 1) by decide +kernel) (show decode code 290 = .ok (.iconst 1, 1) by decide +kernel) (show decode code 291 = .ok (.iadd, 1) by decide +kernel) (show decode code 292 = .ok (.iaload, 1) by decide +kernel) ?_
  refine l_arg (pc := 293) (n := 2) F S hl hi (by decide) (show decode code 293 = .ok (.aload_n 0, 1) by decide +kernel) (show decode code 294 = .ok (.iload_n 3, 1) by decide +kernel) (show decode code 295 = .ok (.iconst 2, 1) by decide +kernel) (show decode code 296 = .ok (.iadd, 1) by decide +kernel) (show decode code 297 = .ok (.iaload, 1) by decide +kernel) ?_
  refine l_callC (pc := 298) (as := [.inl (xs (i + 1)).toInt, .inl (xs (i + 2)).toInt]) (rest := []) F S hl.1 hcs lwL_X7_stitch rfl (Nat.le_of_ble_eq_true rfl) (Nat.le_of_ble_eq_true rfl) (show decode code 298 = .ok (.invokevirtual 28, 3) by decide +kernel) hc0 (fun H locs h1 hPC S => ?_)
  refine lv_aload_n hx hb (show decode code 301 = .ok (.aload_n 2, 1) by decide +kernel) rfl (lv_at hl 2 rfl) ?_
  refine l_arg (pc := 302) (n := 1) F S hl hi (by decide) (show decode code 302 = .ok (.aload_n 0, 1) by decide +kernel) (show decode code 303 = .ok (.iload_n 3, 1) by decide +kernel) (show decode code 304 = .ok (.iconst 1, 1) by decide +kernel) (show decode code 305 = .ok (.iadd, 1) by decide +kernel) (show decode code 306 = .ok (.iaload, 1) by decide +kernel) ?_
  refine l_arg (pc := 307) (n := 2) F S hl hi (by decide) (show decode code 307 = .ok (.aload_n 0, 1) by decide +kernel) (show decode code 308 = .ok (.iload_n 3, 1) by decide +kernel) (show decode code 309 = .ok (.iconst 2, 1) by decide +kernel) (show decode code 310 = .ok (.iadd, 1) by decide +kernel) (show decode code 311 = .ok (.iaload, 1) by decide +kernel) ?_
  refine l_callM (pc := 312) (as := [.inl (xs (i + 1)).toInt, .inl (xs (i + 2)).toInt]) (rest := [.int (Int32.ofInt r)]) F S hl.1 hcs lwL_X8_stitch rfl (Nat.le_of_ble_eq_true rfl) (Nat.le_of_ble_eq_true rfl) (show decode code 312 = .ok (.invokevirtual 32, 3) by decide +kernel) hm0 (fun H locs k1 hPM S => ?_)
  exact l_cmpI (pc := 315) hx hb (show decode code 315 = .ok (.if_icmp .eq 953, 3) by decide +kernel) (by decide) (kk H locs h1 k1 (hrel _ _ hPC hPM) S)
theorem lc_4 (F : lwF p s m meth c b L xs D tc aC aM) (S : lwS s D tc aC aM H locs h k) (hl : lwLs lsA b (aC 0) (aM 0) i) (hi : i + 5 ≤ L) (hcs : cells ≤ room_1.cells ∧ slots ≤ room_1.slots) (hR : Rel h k) (kk : lwKK p l e s m below meth c b D tc aC aM cells slots Q lsA) : W p l e room_1 s m #[Value.ref b] below meth c H locs cells slots Q (F0 m 320 lsA []) := by
  obtain ⟨hx, hb, hml, hlk, hret, hown, hts, -⟩ := id F
  obtain ⟨r, PC, PM, hr0, hc0, hm0, hrel⟩ := AI_of (fun h k hR => Q_of ((xs (i + 1)).toInt) ((xs (i + 2)).toInt) (lw_inI _) (lw_inI _) hR) h k hR
  refine lv_aload_n hx hb (show decode code 320 = .ok (.aload_n 1, 1) by decide +kernel) rfl (lv_at hl 1 rfl) ?_
  refine l_arg (pc := 321) (n := 1) F S hl hi (by decide) (show decode code 321 = .ok (.aload_n 0, 1) by decide +kernel) (show decode code 322 = .ok (.iload_n 3, 1) by decide +kernel) (show decode code 323 = .ok (.iconst 1, 1) by decide +kernel) (show decode code 324 = .ok (.iadd, 1) by decide +kernel) (show decode code 325 = .ok (.iaload, 1) by decide +kernel) ?_
  refine l_arg (pc := 326) (n := 2) F S hl hi (by decide) (show decode code 326 = .ok (.aload_n 0, 1) by decide +kernel) (show decode code 327 = .ok (.iload_n 3, 1) by decide +kernel) (show decode code 328 = .ok (.iconst 2, 1) by decide +kernel) (show decode code 329 = .ok (.iadd, 1) by decide +kernel) (show decode code 330 = .ok (.iaload, 1) by decide +kernel) ?_
  refine l_callC (pc := 331) (as := [.inl (xs (i + 1)).toInt, .inl (xs (i + 2)).toInt]) (rest := []) F S hl.1 hcs lwL_X7_of rfl (Nat.le_of_ble_eq_true rfl) (Nat.le_of_ble_eq_true rfl) (show decode code 331 = .ok (.invokevirtual 33, 3) by decide +kernel) hc0 (fun H locs h1 hPC S => ?_)
  refine lv_aload_n hx hb (show decode code 334 = .ok (.aload_n 2, 1) by decide +kernel) rfl (lv_at hl 2 rfl) ?_
  refine l_arg (pc := 335) (n := 1) F S hl hi (by decide) (show decode code 335 = .ok (.aload_n 0, 1) by decide +kernel) (show decode code 336 = .ok (.iload_n 3, 1) by decide +kernel) (show decode code 337 = .ok (.iconst 1, 1) by decide +kernel) (show decode code 338 = .ok (.iadd, 1) by decide +kernel) (show decode code 339 = .ok (.iaload, 1) by decide +kernel) ?_
  refine l_arg (pc := 340) (n := 2) F S hl hi (by decide) (show decode code 340 = .ok (.aload_n 0, 1) by decide +kernel) (show decode code 341 = .ok (.iload_n 3, 1) by decide +kernel) (show decode code 342 = .ok (.iconst 2, 1) by decide +kernel) (show decode code 343 = .ok (.iadd, 1) by decide +kernel) (show decode code 344 = .ok (.iaload, 1) by decide +kernel) ?_
  refine l_callM (pc := 345) (as := [.inl (xs (i + 1)).toInt, .inl (xs (i + 2)).toInt]) (rest := [.int (Int32.ofInt r)]) F S hl.1 hcs lwL_X8_of rfl (Nat.le_of_ble_eq_true rfl) (Nat.le_of_ble_eq_true rfl) (show decode code 345 = .ok (.invokevirtual 36, 3) by decide +kernel) hm0 (fun H locs k1 hPM S => ?_)
  exact l_cmpI (pc := 348) hx hb (show decode code 348 = .ok (.if_icmp .eq 920, 3) by decide +kernel) (by decide) (kk H locs h1 k1 (hrel _ _ hPC hPM) S)
theorem lc_5 (F : lwF p s m meth c b L xs D tc aC aM) (S : lwS s D tc aC aM H locs h k) (hl : lwLs lsA b (aC 0) (aM 0) i) (hi : i + 5 ≤ L) (hcs : cells ≤ room_1.cells ∧ slots ≤ room_1.slots) (hR : Rel h k) (kk : lwKK p l e s m below meth c b D tc aC aM cells slots Q lsA) : W p l e room_1 s m #[Value.ref b] below meth c H locs cells slots Q (F0 m 353 lsA []) := by
  obtain ⟨hx, hb, hml, hlk, hret, hown, hts, -⟩ := id F
  by_cases hz : Int32.ofInt (xs (i + 2)).toInt = 0
  · obtain ⟨r, PC, PM, hr0, hc0, hm0, hrel⟩ := A_fill (d := 30) (by decide) ((xs (i + 1)).toInt) 0 (lw_inI _) (by unfold inI; decide) h k hR
    refine lv_aload_n hx hb (show decode code 353 = .ok (.aload_n 1, 1) by decide +kernel) rfl (lv_at hl 1 rfl) ?_
    refine l_arg (pc := 354) (n := 1) F S hl hi (by decide) (show decode code 354 = .ok (.aload_n 0, 1) by decide +kernel) (show decode code 355 = .ok (.iload_n 3, 1) by decide +kernel) (show decode code 356 = .ok (.iconst 1, 1) by decide +kernel) (show decode code 357 = .ok (.iadd, 1) by decide +kernel) (show decode code 358 = .ok (.iaload, 1) by decide +kernel) ?_
    refine l_arg (pc := 359) (n := 2) F S hl hi (by decide) (show decode code 359 = .ok (.aload_n 0, 1) by decide +kernel) (show decode code 360 = .ok (.iload_n 3, 1) by decide +kernel) (show decode code 361 = .ok (.iconst 2, 1) by decide +kernel) (show decode code 362 = .ok (.iadd, 1) by decide +kernel) (show decode code 363 = .ok (.iaload, 1) by decide +kernel) ?_
    refine lv_if_eq (tgt := 371) hx hb (show decode code 364 = .ok (.ifCond .eq 7, 3) by decide +kernel) (by decide) (fun _ => ?_) (fun z => absurd hz z)
    refine lv_iconst hx hb (n := 0) (v := Int32.ofInt 0) (show decode code 371 = .ok (.iconst 0, 1) by decide +kernel) rfl ?_
    refine l_callC (pc := 372) (as := [.inl (xs (i + 1)).toInt, .inl 0]) (rest := []) F S hl.1 hcs lwL_X7_fill rfl (Nat.le_of_ble_eq_true rfl) (Nat.le_of_ble_eq_true rfl) (show decode code 372 = .ok (.invokevirtual 37, 3) by decide +kernel) hc0 (fun H locs h1 hPC S => ?_)
    refine lv_aload_n hx hb (show decode code 375 = .ok (.aload_n 2, 1) by decide +kernel) rfl (lv_at hl 2 rfl) ?_
    refine l_arg (pc := 376) (n := 1) F S hl hi (by decide) (show decode code 376 = .ok (.aload_n 0, 1) by decide +kernel) (show decode code 377 = .ok (.iload_n 3, 1) by decide +kernel) (show decode code 378 = .ok (.iconst 1, 1) by decide +kernel) (show decode code 379 = .ok (.iadd, 1) by decide +kernel) (show decode code 380 = .ok (.iaload, 1) by decide +kernel) ?_
    refine l_arg (pc := 381) (n := 2) F S hl hi (by decide) (show decode code 381 = .ok (.aload_n 0, 1) by decide +kernel) (show decode code 382 = .ok (.iload_n 3, 1) by decide +kernel) (show decode code 383 = .ok (.iconst 2, 1) by decide +kernel) (show decode code 384 = .ok (.iadd, 1) by decide +kernel) (show decode code 385 = .ok (.iaload, 1) by decide +kernel) ?_
    refine lv_if_eq (tgt := 393) hx hb (show decode code 386 = .ok (.ifCond .eq 7, 3) by decide +kernel) (by decide) (fun _ => ?_) (fun z => absurd hz z)
    refine lv_iconst hx hb (n := 0) (v := Int32.ofInt 0) (show decode code 393 = .ok (.iconst 0, 1) by decide +kernel) rfl ?_
    refine l_callM (pc := 394) (as := [.inl (xs (i + 1)).toInt, .inl 0]) (rest := [.int (Int32.ofInt r)]) F S hl.1 hcs lwL_X8_fill rfl (Nat.le_of_ble_eq_true rfl) (Nat.le_of_ble_eq_true rfl) (show decode code 394 = .ok (.invokevirtual 41, 3) by decide +kernel) hm0 (fun H locs k1 hPM S => ?_)
    exact l_cmpI (pc := 397) hx hb (show decode code 397 = .ok (.if_icmp .eq 871, 3) by decide +kernel) (by decide) (kk H locs h1 k1 (hrel _ _ hPC hPM) S)
  · obtain ⟨r, PC, PM, hr0, hc0, hm0, hrel⟩ := A_fill (d := 30) (by decide) ((xs (i + 1)).toInt) 1 (lw_inI _) (by unfold inI; decide) h k hR
    refine lv_aload_n hx hb (show decode code 353 = .ok (.aload_n 1, 1) by decide +kernel) rfl (lv_at hl 1 rfl) ?_
    refine l_arg (pc := 354) (n := 1) F S hl hi (by decide) (show decode code 354 = .ok (.aload_n 0, 1) by decide +kernel) (show decode code 355 = .ok (.iload_n 3, 1) by decide +kernel) (show decode code 356 = .ok (.iconst 1, 1) by decide +kernel) (show decode code 357 = .ok (.iadd, 1) by decide +kernel) (show decode code 358 = .ok (.iaload, 1) by decide +kernel) ?_
    refine l_arg (pc := 359) (n := 2) F S hl hi (by decide) (show decode code 359 = .ok (.aload_n 0, 1) by decide +kernel) (show decode code 360 = .ok (.iload_n 3, 1) by decide +kernel) (show decode code 361 = .ok (.iconst 2, 1) by decide +kernel) (show decode code 362 = .ok (.iadd, 1) by decide +kernel) (show decode code 363 = .ok (.iaload, 1) by decide +kernel) ?_
    refine lv_if_eq (tgt := 371) hx hb (show decode code 364 = .ok (.ifCond .eq 7, 3) by decide +kernel) (by decide) (fun z => absurd z hz) (fun _ => ?_)
    refine lv_iconst hx hb (n := 1) (v := Int32.ofInt 1) (show decode code 367 = .ok (.iconst 1, 1) by decide +kernel) rfl ?_
    refine lv_goto (tgt := 372) hx hb (show decode code 368 = .ok (.goto 4, 3) by decide +kernel) (by decide) ?_
    refine l_callC (pc := 372) (as := [.inl (xs (i + 1)).toInt, .inl 1]) (rest := []) F S hl.1 hcs lwL_X7_fill rfl (Nat.le_of_ble_eq_true rfl) (Nat.le_of_ble_eq_true rfl) (show decode code 372 = .ok (.invokevirtual 37, 3) by decide +kernel) hc0 (fun H locs h1 hPC S => ?_)
    refine lv_aload_n hx hb (show decode code 375 = .ok (.aload_n 2, 1) by decide +kernel) rfl (lv_at hl 2 rfl) ?_
    refine l_arg (pc := 376) (n := 1) F S hl hi (by decide) (show decode code 376 = .ok (.aload_n 0, 1) by decide +kernel) (show decode code 377 = .ok (.iload_n 3, 1) by decide +kernel) (show decode code 378 = .ok (.iconst 1, 1) by decide +kernel) (show decode code 379 = .ok (.iadd, 1) by decide +kernel) (show decode code 380 = .ok (.iaload, 1) by decide +kernel) ?_
    refine l_arg (pc := 381) (n := 2) F S hl hi (by decide) (show decode code 381 = .ok (.aload_n 0, 1) by decide +kernel) (show decode code 382 = .ok (.iload_n 3, 1) by decide +kernel) (show decode code 383 = .ok (.iconst 2, 1) by decide +kernel) (show decode code 384 = .ok (.iadd, 1) by decide +kernel) (show decode code 385 = .ok (.iaload, 1) by decide +kernel) ?_
    refine lv_if_eq (tgt := 393) hx hb (show decode code 386 = .ok (.ifCond .eq 7, 3) by decide +kernel) (by decide) (fun z => absurd z hz) (fun _ => ?_)
    refine lv_iconst hx hb (n := 1) (v := Int32.ofInt 1) (show decode code 389 = .ok (.iconst 1, 1) by decide +kernel) rfl ?_
    refine lv_goto (tgt := 394) hx hb (show decode code 390 = .ok (.goto 4, 3) by decide +kernel) (by decide) ?_
    refine l_callM (pc := 394) (as := [.inl (xs (i + 1)).toInt, .inl 1]) (rest := [.int (Int32.ofInt r)]) F S hl.1 hcs lwL_X8_fill rfl (Nat.le_of_ble_eq_true rfl) (Nat.le_of_ble_eq_true rfl) (show decode code 394 = .ok (.invokevirtual 41, 3) by decide +kernel) hm0 (fun H locs k1 hPM S => ?_)
    exact l_cmpI (pc := 397) hx hb (show decode code 397 = .ok (.if_icmp .eq 871, 3) by decide +kernel) (by decide) (kk H locs h1 k1 (hrel _ _ hPC hPM) S)
theorem lc_6 (F : lwF p s m meth c b L xs D tc aC aM) (S : lwS s D tc aC aM H locs h k) (hl : lwLs lsA b (aC 0) (aM 0) i) (hi : i + 5 ≤ L) (hcs : cells ≤ room_1.cells ∧ slots ≤ room_1.slots) (hR : Rel h k) (kk : lwKK p l e s m below meth c b D tc aC aM cells slots Q lsA) : W p l e room_1 s m #[Value.ref b] below meth c H locs cells slots Q (F0 m 402 lsA []) := by
  obtain ⟨hx, hb, hml, hlk, hret, hown, hts, -⟩ := id F
  obtain ⟨r, PC, PM, hr0, hc0, hm0, hrel⟩ := A_turn (d := 30) (by decide) ((xs (i + 1)).toInt) ((xs (i + 2)).toInt) (lw_inI _) (lw_inI _) h k hR
  refine lv_aload_n hx hb (show decode code 402 = .ok (.aload_n 1, 1) by decide +kernel) rfl (lv_at hl 1 rfl) ?_
  refine l_arg (pc := 403) (n := 1) F S hl hi (by decide) (show decode code 403 = .ok (.aload_n 0, 1) by decide +kernel) (show decode code 404 = .ok (.iload_n 3, 1) by decide +kernel) (show decode code 405 = .ok (.iconst 1, 1) by decide +kernel) (show decode code 406 = .ok (.iadd, 1) by decide +kernel) (show decode code 407 = .ok (.iaload, 1) by decide +kernel) ?_
  refine l_arg (pc := 408) (n := 2) F S hl hi (by decide) (show decode code 408 = .ok (.aload_n 0, 1) by decide +kernel) (show decode code 409 = .ok (.iload_n 3, 1) by decide +kernel) (show decode code 410 = .ok (.iconst 2, 1) by decide +kernel) (show decode code 411 = .ok (.iadd, 1) by decide +kernel) (show decode code 412 = .ok (.iaload, 1) by decide +kernel) ?_
  refine l_callC (pc := 413) (as := [.inl (xs (i + 1)).toInt, .inl (xs (i + 2)).toInt]) (rest := []) F S hl.1 hcs lwL_X7_turn rfl (Nat.le_of_ble_eq_true rfl) (Nat.le_of_ble_eq_true rfl) (show decode code 413 = .ok (.invokevirtual 42, 3) by decide +kernel) hc0 (fun H locs h1 hPC S => ?_)
  refine lv_aload_n hx hb (show decode code 416 = .ok (.aload_n 2, 1) by decide +kernel) rfl (lv_at hl 2 rfl) ?_
  refine l_arg (pc := 417) (n := 1) F S hl hi (by decide) (show decode code 417 = .ok (.aload_n 0, 1) by decide +kernel) (show decode code 418 = .ok (.iload_n 3, 1) by decide +kernel) (show decode code 419 = .ok (.iconst 1, 1) by decide +kernel) (show decode code 420 = .ok (.iadd, 1) by decide +kernel) (show decode code 421 = .ok (.iaload, 1) by decide +kernel) ?_
  refine l_arg (pc := 422) (n := 2) F S hl hi (by decide) (show decode code 422 = .ok (.aload_n 0, 1) by decide +kernel) (show decode code 423 = .ok (.iload_n 3, 1) by decide +kernel) (show decode code 424 = .ok (.iconst 2, 1) by decide +kernel) (show decode code 425 = .ok (.iadd, 1) by decide +kernel) (show decode code 426 = .ok (.iaload, 1) by decide +kernel) ?_
  refine l_callM (pc := 427) (as := [.inl (xs (i + 1)).toInt, .inl (xs (i + 2)).toInt]) (rest := [.int (Int32.ofInt r)]) F S hl.1 hcs lwL_X8_turn rfl (Nat.le_of_ble_eq_true rfl) (Nat.le_of_ble_eq_true rfl) (show decode code 427 = .ok (.invokevirtual 45, 3) by decide +kernel) hm0 (fun H locs k1 hPM S => ?_)
  exact l_cmpI (pc := 430) hx hb (show decode code 430 = .ok (.if_icmp .eq 838, 3) by decide +kernel) (by decide) (kk H locs h1 k1 (hrel _ _ hPC hPM) S)
theorem lc_7 (F : lwF p s m meth c b L xs D tc aC aM) (S : lwS s D tc aC aM H locs h k) (hl : lwLs lsA b (aC 0) (aM 0) i) (hi : i + 5 ≤ L) (hcs : cells ≤ room_1.cells ∧ slots ≤ room_1.slots) (hR : Rel h k) (kk : lwKK p l e s m below meth c b D tc aC aM cells slots Q lsA) : W p l e room_1 s m #[Value.ref b] below meth c H locs cells slots Q (F0 m 435 lsA []) := by
  obtain ⟨hx, hb, hml, hlk, hret, hown, hts, -⟩ := id F
  obtain ⟨r, PC, PM, hr0, hc0, hm0, hrel⟩ := AI_of (fun h k hR => Q_filled ((xs (i + 1)).toInt) ((xs (i + 2)).toInt) (lw_inI _) (lw_inI _) hR) h k hR
  refine lv_aload_n hx hb (show decode code 435 = .ok (.aload_n 1, 1) by decide +kernel) rfl (lv_at hl 1 rfl) ?_
  refine l_arg (pc := 436) (n := 1) F S hl hi (by decide) (show decode code 436 = .ok (.aload_n 0, 1) by decide +kernel) (show decode code 437 = .ok (.iload_n 3, 1) by decide +kernel) (show decode code 438 = .ok (.iconst 1, 1) by decide +kernel) (show decode code 439 = .ok (.iadd, 1) by decide +kernel) (show decode code 440 = .ok (.iaload, 1) by decide +kernel) ?_
  refine l_arg (pc := 441) (n := 2) F S hl hi (by decide) (show decode code 441 = .ok (.aload_n 0, 1) by decide +kernel) (show decode code 442 = .ok (.iload_n 3, 1) by decide +kernel) (show decode code 443 = .ok (.iconst 2, 1) by decide +kernel) (show decode code 444 = .ok (.iadd, 1) by decide +kernel) (show decode code 445 = .ok (.iaload, 1) by decide +kernel) ?_
  refine l_callC (pc := 446) (as := [.inl (xs (i + 1)).toInt, .inl (xs (i + 2)).toInt]) (rest := []) F S hl.1 hcs lwL_X7_filled rfl (Nat.le_of_ble_eq_true rfl) (Nat.le_of_ble_eq_true rfl) (show decode code 446 = .ok (.invokevirtual 46, 3) by decide +kernel) hc0 (fun H locs h1 hPC S => ?_)
  refine lv_aload_n hx hb (show decode code 449 = .ok (.aload_n 2, 1) by decide +kernel) rfl (lv_at hl 2 rfl) ?_
  refine l_arg (pc := 450) (n := 1) F S hl hi (by decide) (show decode code 450 = .ok (.aload_n 0, 1) by decide +kernel) (show decode code 451 = .ok (.iload_n 3, 1) by decide +kernel) (show decode code 452 = .ok (.iconst 1, 1) by decide +kernel) (show decode code 453 = .ok (.iadd, 1) by decide +kernel) (show decode code 454 = .ok (.iaload, 1) by decide +kernel) ?_
  refine l_arg (pc := 455) (n := 2) F S hl hi (by decide) (show decode code 455 = .ok (.aload_n 0, 1) by decide +kernel) (show decode code 456 = .ok (.iload_n 3, 1) by decide +kernel) (show decode code 457 = .ok (.iconst 2, 1) by decide +kernel) (show decode code 458 = .ok (.iadd, 1) by decide +kernel) (show decode code 459 = .ok (.iaload, 1) by decide +kernel) ?_
  refine l_callM (pc := 460) (as := [.inl (xs (i + 1)).toInt, .inl (xs (i + 2)).toInt]) (rest := [.int (Int32.ofInt r)]) F S hl.1 hcs lwL_X8_filled rfl (Nat.le_of_ble_eq_true rfl) (Nat.le_of_ble_eq_true rfl) (show decode code 460 = .ok (.invokevirtual 49, 3) by decide +kernel) hm0 (fun H locs k1 hPM S => ?_)
  exact l_cmpI (pc := 463) hx hb (show decode code 463 = .ok (.if_icmp .eq 805, 3) by decide +kernel) (by decide) (kk H locs h1 k1 (hrel _ _ hPC hPM) S)
theorem lc_8 (F : lwF p s m meth c b L xs D tc aC aM) (S : lwS s D tc aC aM H locs h k) (hl : lwLs lsA b (aC 0) (aM 0) i) (hi : i + 5 ≤ L) (hcs : cells ≤ room_1.cells ∧ slots ≤ room_1.slots) (hR : Rel h k) (kk : lwKK p l e s m below meth c b D tc aC aM cells slots Q lsA) : W p l e room_1 s m #[Value.ref b] below meth c H locs cells slots Q (F0 m 468 lsA []) := by
  obtain ⟨hx, hb, hml, hlk, hret, hown, hts, -⟩ := id F
  obtain ⟨r, PC, PM, hr0, hc0, hm0, hrel⟩ := A_mirror   h k hR
  refine lv_aload_n hx hb (show decode code 468 = .ok (.aload_n 1, 1) by decide +kernel) rfl (lv_at hl 1 rfl) ?_
  refine l_callC (pc := 469) (as := []) (rest := []) F S hl.1 hcs lwL_X7_mirror rfl (Nat.le_of_ble_eq_true rfl) (Nat.le_of_ble_eq_true rfl) (show decode code 469 = .ok (.invokevirtual 50, 3) by decide +kernel) hc0 (fun H locs h1 hPC S => ?_)
  refine lv_aload_n hx hb (show decode code 472 = .ok (.aload_n 2, 1) by decide +kernel) rfl (lv_at hl 2 rfl) ?_
  refine l_callM (pc := 473) (as := []) (rest := [.int (Int32.ofInt r)]) F S hl.1 hcs lwL_X8_mirror rfl (Nat.le_of_ble_eq_true rfl) (Nat.le_of_ble_eq_true rfl) (show decode code 473 = .ok (.invokevirtual 53, 3) by decide +kernel) hm0 (fun H locs k1 hPM S => ?_)
  exact l_cmpI (pc := 476) hx hb (show decode code 476 = .ok (.if_icmp .eq 792, 3) by decide +kernel) (by decide) (kk H locs h1 k1 (hrel _ _ hPC hPM) S)
theorem lc_9 (F : lwF p s m meth c b L xs D tc aC aM) (S : lwS s D tc aC aM H locs h k) (hl : lwLs lsA b (aC 0) (aM 0) i) (hi : i + 5 ≤ L) (hcs : cells ≤ room_1.cells ∧ slots ≤ room_1.slots) (hR : Rel h k) (kk : lwKK p l e s m below meth c b D tc aC aM cells slots Q lsA) : W p l e room_1 s m #[Value.ref b] below meth c H locs cells slots Q (F0 m 481 lsA []) := by
  obtain ⟨hx, hb, hml, hlk, hret, hown, hts, -⟩ := id F
  obtain ⟨r, PC, PM, hr0, hc0, hm0, hrel⟩ := AI_of (fun h k hR => Q_even   hR) h k hR
  refine lv_aload_n hx hb (show decode code 481 = .ok (.aload_n 1, 1) by decide +kernel) rfl (lv_at hl 1 rfl) ?_
  refine l_callC (pc := 482) (as := []) (rest := []) F S hl.1 hcs lwL_X7_even rfl (Nat.le_of_ble_eq_true rfl) (Nat.le_of_ble_eq_true rfl) (show decode code 482 = .ok (.invokevirtual 54, 3) by decide +kernel) hc0 (fun H locs h1 hPC S => ?_)
  refine lv_aload_n hx hb (show decode code 485 = .ok (.aload_n 2, 1) by decide +kernel) rfl (lv_at hl 2 rfl) ?_
  refine l_callM (pc := 486) (as := []) (rest := [.int (Int32.ofInt r)]) F S hl.1 hcs lwL_X8_even rfl (Nat.le_of_ble_eq_true rfl) (Nat.le_of_ble_eq_true rfl) (show decode code 486 = .ok (.invokevirtual 57, 3) by decide +kernel) hm0 (fun H locs k1 hPM S => ?_)
  exact l_cmpI (pc := 489) hx hb (show decode code 489 = .ok (.if_icmp .eq 779, 3) by decide +kernel) (by decide) (kk H locs h1 k1 (hrel _ _ hPC hPM) S)
theorem lc_10 (F : lwF p s m meth c b L xs D tc aC aM) (S : lwS s D tc aC aM H locs h k) (hl : lwLs lsA b (aC 0) (aM 0) i) (hi : i + 5 ≤ L) (hcs : cells ≤ room_1.cells ∧ slots ≤ room_1.slots) (hR : Rel h k) (kk : lwKK p l e s m below meth c b D tc aC aM cells slots Q lsA) : W p l e room_1 s m #[Value.ref b] below meth c H locs cells slots Q (F0 m 494 lsA []) := by
  obtain ⟨hx, hb, hml, hlk, hret, hown, hts, -⟩ := id F
  obtain ⟨r, PC, PM, hr0, hc0, hm0, hrel⟩ := AL_of (fun h k hR => Q_needs ((xs (i + 1)).toInt) ((xs (i + 2)).toInt) (lw_inI _) (lw_inI _) hR) h k hR
  refine lv_aload_n hx hb (show decode code 494 = .ok (.aload_n 1, 1) by decide +kernel) rfl (lv_at hl 1 rfl) ?_
  refine l_arg (pc := 495) (n := 1) F S hl hi (by decide) (show decode code 495 = .ok (.aload_n 0, 1) by decide +kernel) (show decode code 496 = .ok (.iload_n 3, 1) by decide +kernel) (show decode code 497 = .ok (.iconst 1, 1) by decide +kernel) (show decode code 498 = .ok (.iadd, 1) by decide +kernel) (show decode code 499 = .ok (.iaload, 1) by decide +kernel) ?_
  refine l_arg (pc := 500) (n := 2) F S hl hi (by decide) (show decode code 500 = .ok (.aload_n 0, 1) by decide +kernel) (show decode code 501 = .ok (.iload_n 3, 1) by decide +kernel) (show decode code 502 = .ok (.iconst 2, 1) by decide +kernel) (show decode code 503 = .ok (.iadd, 1) by decide +kernel) (show decode code 504 = .ok (.iaload, 1) by decide +kernel) ?_
  refine l_callCL (pc := 505) (as := [.inl (xs (i + 1)).toInt, .inl (xs (i + 2)).toInt]) (rest := []) F S hl.1 hcs lwL_X7_needs rfl (Nat.le_of_ble_eq_true rfl) (Nat.le_of_ble_eq_true rfl) (show decode code 505 = .ok (.invokevirtual 58, 3) by decide +kernel) hc0 (fun H locs h1 hPC S => ?_)
  refine lv_aload_n hx hb (show decode code 508 = .ok (.aload_n 2, 1) by decide +kernel) rfl (lv_at hl 2 rfl) ?_
  refine l_arg (pc := 509) (n := 1) F S hl hi (by decide) (show decode code 509 = .ok (.aload_n 0, 1) by decide +kernel) (show decode code 510 = .ok (.iload_n 3, 1) by decide +kernel) (show decode code 511 = .ok (.iconst 1, 1) by decide +kernel) (show decode code 512 = .ok (.iadd, 1) by decide +kernel) (show decode code 513 = .ok (.iaload, 1) by decide +kernel) ?_
  refine l_arg (pc := 514) (n := 2) F S hl hi (by decide) (show decode code 514 = .ok (.aload_n 0, 1) by decide +kernel) (show decode code 515 = .ok (.iload_n 3, 1) by decide +kernel) (show decode code 516 = .ok (.iconst 2, 1) by decide +kernel) (show decode code 517 = .ok (.iadd, 1) by decide +kernel) (show decode code 518 = .ok (.iaload, 1) by decide +kernel) ?_
  refine l_callML (pc := 519) (as := [.inl (xs (i + 1)).toInt, .inl (xs (i + 2)).toInt]) (rest := [.long (Int64.ofInt r)]) F S hl.1 hcs lwL_X8_needs rfl (Nat.le_of_ble_eq_true rfl) (Nat.le_of_ble_eq_true rfl) (show decode code 519 = .ok (.invokevirtual 62, 3) by decide +kernel) hm0 (fun H locs k1 hPM S => ?_)
  exact l_cmpL (pc := 522) hx hb hr0 (show decode code 522 = .ok (.lcmp, 1) by decide +kernel) (show decode code 523 = .ok (.ifCond .eq 745, 3) by decide +kernel) (by decide) (kk H locs h1 k1 (hrel _ _ hPC hPM) S)
theorem lc_11 (F : lwF p s m meth c b L xs D tc aC aM) (S : lwS s D tc aC aM H locs h k) (hl : lwLs lsA b (aC 0) (aM 0) i) (hi : i + 5 ≤ L) (hcs : cells ≤ room_1.cells ∧ slots ≤ room_1.slots) (hR : Rel h k) (kk : lwKK p l e s m below meth c b D tc aC aM cells slots Q lsA) : W p l e room_1 s m #[Value.ref b] below meth c H locs cells slots Q (F0 m 528 lsA []) := by
  obtain ⟨hx, hb, hml, hlk, hret, hown, hts, -⟩ := id F
  obtain ⟨r, PC, PM, hr0, hc0, hm0, hrel⟩ := AL_of (fun h k hR => Q_pins ((xs (i + 1)).toInt) (lw_inI _) hR) h k hR
  refine lv_aload_n hx hb (show decode code 528 = .ok (.aload_n 1, 1) by decide +kernel) rfl (lv_at hl 1 rfl) ?_
  refine l_arg (pc := 529) (n := 1) F S hl hi (by decide) (show decode code 529 = .ok (.aload_n 0, 1) by decide +kernel) (show decode code 530 = .ok (.iload_n 3, 1) by decide +kernel) (show decode code 531 = .ok (.iconst 1, 1) by decide +kernel) (show decode code 532 = .ok (.iadd, 1) by decide +kernel) (show decode code 533 = .ok (.iaload, 1) by decide +kernel) ?_
  refine l_callCL (pc := 534) (as := [.inl (xs (i + 1)).toInt]) (rest := []) F S hl.1 hcs lwL_X7_pins rfl (Nat.le_of_ble_eq_true rfl) (Nat.le_of_ble_eq_true rfl) (show decode code 534 = .ok (.invokevirtual 63, 3) by decide +kernel) hc0 (fun H locs h1 hPC S => ?_)
  refine lv_aload_n hx hb (show decode code 537 = .ok (.aload_n 2, 1) by decide +kernel) rfl (lv_at hl 2 rfl) ?_
  refine l_arg (pc := 538) (n := 1) F S hl hi (by decide) (show decode code 538 = .ok (.aload_n 0, 1) by decide +kernel) (show decode code 539 = .ok (.iload_n 3, 1) by decide +kernel) (show decode code 540 = .ok (.iconst 1, 1) by decide +kernel) (show decode code 541 = .ok (.iadd, 1) by decide +kernel) (show decode code 542 = .ok (.iaload, 1) by decide +kernel) ?_
  refine l_callML (pc := 543) (as := [.inl (xs (i + 1)).toInt]) (rest := [.long (Int64.ofInt r)]) F S hl.1 hcs lwL_X8_pins rfl (Nat.le_of_ble_eq_true rfl) (Nat.le_of_ble_eq_true rfl) (show decode code 543 = .ok (.invokevirtual 67, 3) by decide +kernel) hm0 (fun H locs k1 hPM S => ?_)
  exact l_cmpL (pc := 546) hx hb hr0 (show decode code 546 = .ok (.lcmp, 1) by decide +kernel) (show decode code 547 = .ok (.ifCond .eq 721, 3) by decide +kernel) (by decide) (kk H locs h1 k1 (hrel _ _ hPC hPM) S)
theorem lc_12 (F : lwF p s m meth c b L xs D tc aC aM) (S : lwS s D tc aC aM H locs h k) (hl : lwLs lsA b (aC 0) (aM 0) i) (hi : i + 5 ≤ L) (hcs : cells ≤ room_1.cells ∧ slots ≤ room_1.slots) (hR : Rel h k) (kk : lwKK p l e s m below meth c b D tc aC aM cells slots Q lsA) : W p l e room_1 s m #[Value.ref b] below meth c H locs cells slots Q (F0 m 552 lsA []) := by
  obtain ⟨hx, hb, hml, hlk, hret, hown, hts, -⟩ := id F
  obtain ⟨r, PC, PM, hr0, hc0, hm0, hrel⟩ := AI_of (fun h k hR => Q_deepest   hR) h k hR
  refine lv_aload_n hx hb (show decode code 552 = .ok (.aload_n 1, 1) by decide +kernel) rfl (lv_at hl 1 rfl) ?_
  refine l_callC (pc := 553) (as := []) (rest := []) F S hl.1 hcs lwL_X7_deepest rfl (Nat.le_of_ble_eq_true rfl) (Nat.le_of_ble_eq_true rfl) (show decode code 553 = .ok (.invokevirtual 68, 3) by decide +kernel) hc0 (fun H locs h1 hPC S => ?_)
  refine lv_aload_n hx hb (show decode code 556 = .ok (.aload_n 2, 1) by decide +kernel) rfl (lv_at hl 2 rfl) ?_
  refine l_callM (pc := 557) (as := []) (rest := [.int (Int32.ofInt r)]) F S hl.1 hcs lwL_X8_deepest rfl (Nat.le_of_ble_eq_true rfl) (Nat.le_of_ble_eq_true rfl) (show decode code 557 = .ok (.invokevirtual 71, 3) by decide +kernel) hm0 (fun H locs k1 hPM S => ?_)
  exact l_cmpI (pc := 560) hx hb (show decode code 560 = .ok (.if_icmp .eq 708, 3) by decide +kernel) (by decide) (kk H locs h1 k1 (hrel _ _ hPC hPM) S)
theorem lc_13 (F : lwF p s m meth c b L xs D tc aC aM) (S : lwS s D tc aC aM H locs h k) (hl : lwLs lsA b (aC 0) (aM 0) i) (hi : i + 5 ≤ L) (hcs : cells ≤ room_1.cells ∧ slots ≤ room_1.slots) (hR : Rel h k) (kk : lwKK p l e s m below meth c b D tc aC aM cells slots Q lsA) : W p l e room_1 s m #[Value.ref b] below meth c H locs cells slots Q (F0 m 565 lsA []) := by
  obtain ⟨hx, hb, hml, hlk, hret, hown, hts, -⟩ := id F
  obtain ⟨r, PC, PM, hr0, hc0, hm0, hrel⟩ := A_work ((xs (i + 1)).toInt) (lw_inI _) h k hR
  refine lv_aload_n hx hb (show decode code 565 = .ok (.aload_n 1, 1) by decide +kernel) rfl (lv_at hl 1 rfl) ?_
  refine l_arg (pc := 566) (n := 1) F S hl hi (by decide) (show decode code 566 = .ok (.aload_n 0, 1) by decide +kernel) (show decode code 567 = .ok (.iload_n 3, 1) by decide +kernel) (show decode code 568 = .ok (.iconst 1, 1) by decide +kernel) (show decode code 569 = .ok (.iadd, 1) by decide +kernel) (show decode code 570 = .ok (.iaload, 1) by decide +kernel) ?_
  refine l_callC (pc := 571) (as := [.inl (xs (i + 1)).toInt]) (rest := []) F S hl.1 hcs lwL_X7_work rfl (Nat.le_of_ble_eq_true rfl) (Nat.le_of_ble_eq_true rfl) (show decode code 571 = .ok (.invokevirtual 72, 3) by decide +kernel) hc0 (fun H locs h1 hPC S => ?_)
  refine lv_aload_n hx hb (show decode code 574 = .ok (.aload_n 2, 1) by decide +kernel) rfl (lv_at hl 2 rfl) ?_
  refine l_arg (pc := 575) (n := 1) F S hl hi (by decide) (show decode code 575 = .ok (.aload_n 0, 1) by decide +kernel) (show decode code 576 = .ok (.iload_n 3, 1) by decide +kernel) (show decode code 577 = .ok (.iconst 1, 1) by decide +kernel) (show decode code 578 = .ok (.iadd, 1) by decide +kernel) (show decode code 579 = .ok (.iaload, 1) by decide +kernel) ?_
  refine l_callM (pc := 580) (as := [.inl (xs (i + 1)).toInt]) (rest := [.int (Int32.ofInt r)]) F S hl.1 hcs lwL_X8_work rfl (Nat.le_of_ble_eq_true rfl) (Nat.le_of_ble_eq_true rfl) (show decode code 580 = .ok (.invokevirtual 75, 3) by decide +kernel) hm0 (fun H locs k1 hPM S => ?_)
  exact l_cmpI (pc := 583) hx hb (show decode code 583 = .ok (.if_icmp .eq 685, 3) by decide +kernel) (by decide) (kk H locs h1 k1 (hrel _ _ hPC hPM) S)
theorem lc_14 (F : lwF p s m meth c b L xs D tc aC aM) (S : lwS s D tc aC aM H locs h k) (hl : lwLs lsA b (aC 0) (aM 0) i) (hi : i + 5 ≤ L) (hcs : cells ≤ room_1.cells ∧ slots ≤ room_1.slots) (hR : Rel h k) (kk : lwKK p l e s m below meth c b D tc aC aM cells slots Q lsA) : W p l e room_1 s m #[Value.ref b] below meth c H locs cells slots Q (F0 m 588 lsA []) := by
  obtain ⟨hx, hb, hml, hlk, hret, hown, hts, -⟩ := id F
  obtain ⟨r, PC, PM, hr0, hc0, hm0, hrel⟩ := A_workAll   h k hR
  refine lv_aload_n hx hb (show decode code 588 = .ok (.aload_n 1, 1) by decide +kernel) rfl (lv_at hl 1 rfl) ?_
  refine l_callC (pc := 589) (as := []) (rest := []) F S hl.1 hcs lwL_X7_workAll rfl (Nat.le_of_ble_eq_true rfl) (Nat.le_of_ble_eq_true rfl) (show decode code 589 = .ok (.invokevirtual 76, 3) by decide +kernel) hc0 (fun H locs h1 hPC S => ?_)
  refine lv_aload_n hx hb (show decode code 592 = .ok (.aload_n 2, 1) by decide +kernel) rfl (lv_at hl 2 rfl) ?_
  refine l_callM (pc := 593) (as := []) (rest := [.int (Int32.ofInt r)]) F S hl.1 hcs lwL_X8_workAll rfl (Nat.le_of_ble_eq_true rfl) (Nat.le_of_ble_eq_true rfl) (show decode code 593 = .ok (.invokevirtual 79, 3) by decide +kernel) hm0 (fun H locs k1 hPM S => ?_)
  exact l_cmpI (pc := 596) hx hb (show decode code 596 = .ok (.if_icmp .eq 672, 3) by decide +kernel) (by decide) (kk H locs h1 k1 (hrel _ _ hPC hPM) S)
theorem lc_15 (F : lwF p s m meth c b L xs D tc aC aM) (S : lwS s D tc aC aM H locs h k) (hl : lwLs lsA b (aC 0) (aM 0) i) (hi : i + 5 ≤ L) (hcs : cells ≤ room_1.cells ∧ slots ≤ room_1.slots) (hR : Rel h k) (kk : lwKK p l e s m below meth c b D tc aC aM cells slots Q lsA) : W p l e room_1 s m #[Value.ref b] below meth c H locs cells slots Q (F0 m 601 lsA []) := by
  obtain ⟨hx, hb, hml, hlk, hret, hown, hts, -⟩ := id F
  obtain ⟨r, PC, PM, hr0, hc0, hm0, hrel⟩ := A_undo   h k hR
  refine lv_aload_n hx hb (show decode code 601 = .ok (.aload_n 1, 1) by decide +kernel) rfl (lv_at hl 1 rfl) ?_
  refine l_callC (pc := 602) (as := []) (rest := []) F S hl.1 hcs lwL_X7_undo rfl (Nat.le_of_ble_eq_true rfl) (Nat.le_of_ble_eq_true rfl) (show decode code 602 = .ok (.invokevirtual 80, 3) by decide +kernel) hc0 (fun H locs h1 hPC S => ?_)
  refine lv_aload_n hx hb (show decode code 605 = .ok (.aload_n 2, 1) by decide +kernel) rfl (lv_at hl 2 rfl) ?_
  refine l_callM (pc := 606) (as := []) (rest := [.int (Int32.ofInt r)]) F S hl.1 hcs lwL_X8_undo rfl (Nat.le_of_ble_eq_true rfl) (Nat.le_of_ble_eq_true rfl) (show decode code 606 = .ok (.invokevirtual 83, 3) by decide +kernel) hm0 (fun H locs k1 hPM S => ?_)
  exact l_cmpI (pc := 609) hx hb (show decode code 609 = .ok (.if_icmp .eq 659, 3) by decide +kernel) (by decide) (kk H locs h1 k1 (hrel _ _ hPC hPM) S)
theorem lc_16 (F : lwF p s m meth c b L xs D tc aC aM) (S : lwS s D tc aC aM H locs h k) (hl : lwLs lsA b (aC 0) (aM 0) i) (hi : i + 5 ≤ L) (hcs : cells ≤ room_1.cells ∧ slots ≤ room_1.slots) (hR : Rel h k) (kk : lwKK p l e s m below meth c b D tc aC aM cells slots Q lsA) : W p l e room_1 s m #[Value.ref b] below meth c H locs cells slots Q (F0 m 614 lsA []) := by
  obtain ⟨hx, hb, hml, hlk, hret, hown, hts, -⟩ := id F
  obtain ⟨r, PC, PM, hr0, hc0, hm0, hrel⟩ := AI_of (fun h k hR => Q_thread ((xs (i + 1)).toInt) ((xs (i + 2)).toInt) (lw_inI _) (lw_inI _) hR) h k hR
  refine lv_aload_n hx hb (show decode code 614 = .ok (.aload_n 1, 1) by decide +kernel) rfl (lv_at hl 1 rfl) ?_
  refine l_arg (pc := 615) (n := 1) F S hl hi (by decide) (show decode code 615 = .ok (.aload_n 0, 1) by decide +kernel) (show decode code 616 = .ok (.iload_n 3, 1) by decide +kernel) (show decode code 617 = .ok (.iconst 1, 1) by decide +kernel) (show decode code 618 = .ok (.iadd, 1) by decide +kernel) (show decode code 619 = .ok (.iaload, 1) by decide +kernel) ?_
  refine l_arg (pc := 620) (n := 2) F S hl hi (by decide) (show decode code 620 = .ok (.aload_n 0, 1) by decide +kernel) (show decode code 621 = .ok (.iload_n 3, 1) by decide +kernel) (show decode code 622 = .ok (.iconst 2, 1) by decide +kernel) (show decode code 623 = .ok (.iadd, 1) by decide +kernel) (show decode code 624 = .ok (.iaload, 1) by decide +kernel) ?_
  refine l_callC (pc := 625) (as := [.inl (xs (i + 1)).toInt, .inl (xs (i + 2)).toInt]) (rest := []) F S hl.1 hcs lwL_X7_thread rfl (Nat.le_of_ble_eq_true rfl) (Nat.le_of_ble_eq_true rfl) (show decode code 625 = .ok (.invokevirtual 84, 3) by decide +kernel) hc0 (fun H locs h1 hPC S => ?_)
  refine lv_aload_n hx hb (show decode code 628 = .ok (.aload_n 2, 1) by decide +kernel) rfl (lv_at hl 2 rfl) ?_
  refine l_arg (pc := 629) (n := 1) F S hl hi (by decide) (show decode code 629 = .ok (.aload_n 0, 1) by decide +kernel) (show decode code 630 = .ok (.iload_n 3, 1) by decide +kernel) (show decode code 631 = .ok (.iconst 1, 1) by decide +kernel) (show decode code 632 = .ok (.iadd, 1) by decide +kernel) (show decode code 633 = .ok (.iaload, 1) by decide +kernel) ?_
  refine l_arg (pc := 634) (n := 2) F S hl hi (by decide) (show decode code 634 = .ok (.aload_n 0, 1) by decide +kernel) (show decode code 635 = .ok (.iload_n 3, 1) by decide +kernel) (show decode code 636 = .ok (.iconst 2, 1) by decide +kernel) (show decode code 637 = .ok (.iadd, 1) by decide +kernel) (show decode code 638 = .ok (.iaload, 1) by decide +kernel) ?_
  refine l_callM (pc := 639) (as := [.inl (xs (i + 1)).toInt, .inl (xs (i + 2)).toInt]) (rest := [.int (Int32.ofInt r)]) F S hl.1 hcs lwL_X8_thread rfl (Nat.le_of_ble_eq_true rfl) (Nat.le_of_ble_eq_true rfl) (show decode code 639 = .ok (.invokevirtual 87, 3) by decide +kernel) hm0 (fun H locs k1 hPM S => ?_)
  exact l_cmpI (pc := 642) hx hb (show decode code 642 = .ok (.if_icmp .eq 626, 3) by decide +kernel) (by decide) (kk H locs h1 k1 (hrel _ _ hPC hPM) S)
theorem lc_17 (F : lwF p s m meth c b L xs D tc aC aM) (S : lwS s D tc aC aM H locs h k) (hl : lwLs lsA b (aC 0) (aM 0) i) (hi : i + 5 ≤ L) (hcs : cells ≤ room_1.cells ∧ slots ≤ room_1.slots) (hR : Rel h k) (kk : lwKK p l e s m below meth c b D tc aC aM cells slots Q lsA) : W p l e room_1 s m #[Value.ref b] below meth c H locs cells slots Q (F0 m 647 lsA []) := by
  obtain ⟨hx, hb, hml, hlk, hret, hown, hts, -⟩ := id F
  obtain ⟨r, PC, PM, hr0, hc0, hm0, hrel⟩ := AI_of (fun h k hR => Q_where ((xs (i + 1)).toInt) (lw_inI _) hR) h k hR
  refine lv_aload_n hx hb (show decode code 647 = .ok (.aload_n 1, 1) by decide +kernel) rfl (lv_at hl 1 rfl) ?_
  refine l_arg (pc := 648) (n := 1) F S hl hi (by decide) (show decode code 648 = .ok (.aload_n 0, 1) by decide +kernel) (show decode code 649 = .ok (.iload_n 3, 1) by decide +kernel) (show decode code 650 = .ok (.iconst 1, 1) by decide +kernel) (show decode code 651 = .ok (.iadd, 1) by decide +kernel) (show decode code 652 = .ok (.iaload, 1) by decide +kernel) ?_
  refine l_callC (pc := 653) (as := [.inl (xs (i + 1)).toInt]) (rest := []) F S hl.1 hcs lwL_X7_where rfl (Nat.le_of_ble_eq_true rfl) (Nat.le_of_ble_eq_true rfl) (show decode code 653 = .ok (.invokevirtual 88, 3) by decide +kernel) hc0 (fun H locs h1 hPC S => ?_)
  refine lv_aload_n hx hb (show decode code 656 = .ok (.aload_n 2, 1) by decide +kernel) rfl (lv_at hl 2 rfl) ?_
  refine l_arg (pc := 657) (n := 1) F S hl hi (by decide) (show decode code 657 = .ok (.aload_n 0, 1) by decide +kernel) (show decode code 658 = .ok (.iload_n 3, 1) by decide +kernel) (show decode code 659 = .ok (.iconst 1, 1) by decide +kernel) (show decode code 660 = .ok (.iadd, 1) by decide +kernel) (show decode code 661 = .ok (.iaload, 1) by decide +kernel) ?_
  refine l_callM (pc := 662) (as := [.inl (xs (i + 1)).toInt]) (rest := [.int (Int32.ofInt r)]) F S hl.1 hcs lwL_X8_where rfl (Nat.le_of_ble_eq_true rfl) (Nat.le_of_ble_eq_true rfl) (show decode code 662 = .ok (.invokevirtual 91, 3) by decide +kernel) hm0 (fun H locs k1 hPM S => ?_)
  exact l_cmpI (pc := 665) hx hb (show decode code 665 = .ok (.if_icmp .eq 603, 3) by decide +kernel) (by decide) (kk H locs h1 k1 (hrel _ _ hPC hPM) S)
theorem lc_18 (F : lwF p s m meth c b L xs D tc aC aM) (S : lwS s D tc aC aM H locs h k) (hl : lwLs lsA b (aC 0) (aM 0) i) (hi : i + 5 ≤ L) (hcs : cells ≤ room_1.cells ∧ slots ≤ room_1.slots) (hR : Rel h k) (kk : lwKK p l e s m below meth c b D tc aC aM cells slots Q lsA) : W p l e room_1 s m #[Value.ref b] below meth c H locs cells slots Q (F0 m 670 lsA []) := by
  obtain ⟨hx, hb, hml, hlk, hret, hown, hts, -⟩ := id F
  obtain ⟨r, PC, PM, hr0, hc0, hm0, hrel⟩ := AI_of (fun h k hR => Q_overs ((xs (i + 1)).toInt) (lw_inI _) hR) h k hR
  refine lv_aload_n hx hb (show decode code 670 = .ok (.aload_n 1, 1) by decide +kernel) rfl (lv_at hl 1 rfl) ?_
  refine l_arg (pc := 671) (n := 1) F S hl hi (by decide) (show decode code 671 = .ok (.aload_n 0, 1) by decide +kernel) (show decode code 672 = .ok (.iload_n 3, 1) by decide +kernel) (show decode code 673 = .ok (.iconst 1, 1) by decide +kernel) (show decode code 674 = .ok (.iadd, 1) by decide +kernel) (show decode code 675 = .ok (.iaload, 1) by decide +kernel) ?_
  refine l_callC (pc := 676) (as := [.inl (xs (i + 1)).toInt]) (rest := []) F S hl.1 hcs lwL_X7_overs rfl (Nat.le_of_ble_eq_true rfl) (Nat.le_of_ble_eq_true rfl) (show decode code 676 = .ok (.invokevirtual 92, 3) by decide +kernel) hc0 (fun H locs h1 hPC S => ?_)
  refine lv_aload_n hx hb (show decode code 679 = .ok (.aload_n 2, 1) by decide +kernel) rfl (lv_at hl 2 rfl) ?_
  refine l_arg (pc := 680) (n := 1) F S hl hi (by decide) (show decode code 680 = .ok (.aload_n 0, 1) by decide +kernel) (show decode code 681 = .ok (.iload_n 3, 1) by decide +kernel) (show decode code 682 = .ok (.iconst 1, 1) by decide +kernel) (show decode code 683 = .ok (.iadd, 1) by decide +kernel) (show decode code 684 = .ok (.iaload, 1) by decide +kernel) ?_
  refine l_callM (pc := 685) (as := [.inl (xs (i + 1)).toInt]) (rest := [.int (Int32.ofInt r)]) F S hl.1 hcs lwL_X8_overs rfl (Nat.le_of_ble_eq_true rfl) (Nat.le_of_ble_eq_true rfl) (show decode code 685 = .ok (.invokevirtual 95, 3) by decide +kernel) hm0 (fun H locs k1 hPM S => ?_)
  exact l_cmpI (pc := 688) hx hb (show decode code 688 = .ok (.if_icmp .eq 580, 3) by decide +kernel) (by decide) (kk H locs h1 k1 (hrel _ _ hPC hPM) S)
theorem lc_19 (F : lwF p s m meth c b L xs D tc aC aM) (S : lwS s D tc aC aM H locs h k) (hl : lwLs lsA b (aC 0) (aM 0) i) (hi : i + 5 ≤ L) (hcs : cells ≤ room_1.cells ∧ slots ≤ room_1.slots) (hR : Rel h k) (kk : lwKK p l e s m below meth c b D tc aC aM cells slots Q lsA) : W p l e room_1 s m #[Value.ref b] below meth c H locs cells slots Q (F0 m 693 lsA []) := by
  obtain ⟨hx, hb, hml, hlk, hret, hown, hts, -⟩ := id F
  obtain ⟨r, PC, PM, hr0, hc0, hm0, hrel⟩ := AI_of (fun h k hR => Q_acts ((xs (i + 1)).toInt) (lw_inI _) hR) h k hR
  refine lv_aload_n hx hb (show decode code 693 = .ok (.aload_n 1, 1) by decide +kernel) rfl (lv_at hl 1 rfl) ?_
  refine l_arg (pc := 694) (n := 1) F S hl hi (by decide) (show decode code 694 = .ok (.aload_n 0, 1) by decide +kernel) (show decode code 695 = .ok (.iload_n 3, 1) by decide +kernel) (show decode code 696 = .ok (.iconst 1, 1) by decide +kernel) (show decode code 697 = .ok (.iadd, 1) by decide +kernel) (show decode code 698 = .ok (.iaload, 1) by decide +kernel) ?_
  refine l_callC (pc := 699) (as := [.inl (xs (i + 1)).toInt]) (rest := []) F S hl.1 hcs lwL_X7_acts rfl (Nat.le_of_ble_eq_true rfl) (Nat.le_of_ble_eq_true rfl) (show decode code 699 = .ok (.invokevirtual 96, 3) by decide +kernel) hc0 (fun H locs h1 hPC S => ?_)
  refine lv_aload_n hx hb (show decode code 702 = .ok (.aload_n 2, 1) by decide +kernel) rfl (lv_at hl 2 rfl) ?_
  refine l_arg (pc := 703) (n := 1) F S hl hi (by decide) (show decode code 703 = .ok (.aload_n 0, 1) by decide +kernel) (show decode code 704 = .ok (.iload_n 3, 1) by decide +kernel) (show decode code 705 = .ok (.iconst 1, 1) by decide +kernel) (show decode code 706 = .ok (.iadd, 1) by decide +kernel) (show decode code 707 = .ok (.iaload, 1) by decide +kernel) ?_
  refine l_callM (pc := 708) (as := [.inl (xs (i + 1)).toInt]) (rest := [.int (Int32.ofInt r)]) F S hl.1 hcs lwL_X8_acts rfl (Nat.le_of_ble_eq_true rfl) (Nat.le_of_ble_eq_true rfl) (show decode code 708 = .ok (.invokevirtual 99, 3) by decide +kernel) hm0 (fun H locs k1 hPM S => ?_)
  exact l_cmpI (pc := 711) hx hb (show decode code 711 = .ok (.if_icmp .eq 557, 3) by decide +kernel) (by decide) (kk H locs h1 k1 (hrel _ _ hPC hPM) S)
theorem lc_20 (F : lwF p s m meth c b L xs D tc aC aM) (S : lwS s D tc aC aM H locs h k) (hl : lwLs lsA b (aC 0) (aM 0) i) (hi : i + 5 ≤ L) (hcs : cells ≤ room_1.cells ∧ slots ≤ room_1.slots) (hR : Rel h k) (kk : lwKK p l e s m below meth c b D tc aC aM cells slots Q lsA) : W p l e room_1 s m #[Value.ref b] below meth c H locs cells slots Q (F0 m 716 lsA []) := by
  obtain ⟨hx, hb, hml, hlk, hret, hown, hts, -⟩ := id F
  obtain ⟨r, PC, PM, hr0, hc0, hm0, hrel⟩ := A_hand ((xs (i + 1)).toInt) (lw_inI _) h k hR
  refine lv_aload_n hx hb (show decode code 716 = .ok (.aload_n 1, 1) by decide +kernel) rfl (lv_at hl 1 rfl) ?_
  refine l_arg (pc := 717) (n := 1) F S hl hi (by decide) (show decode code 717 = .ok (.aload_n 0, 1) by decide +kernel) (show decode code 718 = .ok (.iload_n 3, 1) by decide +kernel) (show decode code 719 = .ok (.iconst 1, 1) by decide +kernel) (show decode code 720 = .ok (.iadd, 1) by decide +kernel) (show decode code 721 = .ok (.iaload, 1) by decide +kernel) ?_
  refine l_callC (pc := 722) (as := [.inl (xs (i + 1)).toInt]) (rest := []) F S hl.1 hcs lwL_X7_hand rfl (Nat.le_of_ble_eq_true rfl) (Nat.le_of_ble_eq_true rfl) (show decode code 722 = .ok (.invokevirtual 100, 3) by decide +kernel) hc0 (fun H locs h1 hPC S => ?_)
  refine lv_aload_n hx hb (show decode code 725 = .ok (.aload_n 2, 1) by decide +kernel) rfl (lv_at hl 2 rfl) ?_
  refine l_arg (pc := 726) (n := 1) F S hl hi (by decide) (show decode code 726 = .ok (.aload_n 0, 1) by decide +kernel) (show decode code 727 = .ok (.iload_n 3, 1) by decide +kernel) (show decode code 728 = .ok (.iconst 1, 1) by decide +kernel) (show decode code 729 = .ok (.iadd, 1) by decide +kernel) (show decode code 730 = .ok (.iaload, 1) by decide +kernel) ?_
  refine l_callM (pc := 731) (as := [.inl (xs (i + 1)).toInt]) (rest := [.int (Int32.ofInt r)]) F S hl.1 hcs lwL_X8_hand rfl (Nat.le_of_ble_eq_true rfl) (Nat.le_of_ble_eq_true rfl) (show decode code 731 = .ok (.invokevirtual 103, 3) by decide +kernel) hm0 (fun H locs k1 hPM S => ?_)
  exact l_cmpI (pc := 734) hx hb (show decode code 734 = .ok (.if_icmp .eq 534, 3) by decide +kernel) (by decide) (kk H locs h1 k1 (hrel _ _ hPC hPM) S)
theorem lc_21 (F : lwF p s m meth c b L xs D tc aC aM) (S : lwS s D tc aC aM H locs h k) (hl : lwLs lsA b (aC 0) (aM 0) i) (hi : i + 5 ≤ L) (hcs : cells ≤ room_1.cells ∧ slots ≤ room_1.slots) (hR : Rel h k) (kk : lwKK p l e s m below meth c b D tc aC aM cells slots Q lsA) : W p l e room_1 s m #[Value.ref b] below meth c H locs cells slots Q (F0 m 739 lsA []) := by
  obtain ⟨hx, hb, hml, hlk, hret, hown, hts, -⟩ := id F
  obtain ⟨r, PC, PM, hr0, hc0, hm0, hrel⟩ := ALT_of (fun h k hR => Q_orders   hR) h k hR
  refine lv_aload_n hx hb (show decode code 739 = .ok (.aload_n 1, 1) by decide +kernel) rfl (lv_at hl 1 rfl) ?_
  refine l_callCL (pc := 740) (as := []) (rest := []) F S hl.1 hcs lwL_X7_orders rfl (Nat.le_of_ble_eq_true rfl) (Nat.le_of_ble_eq_true rfl) (show decode code 740 = .ok (.invokevirtual 104, 3) by decide +kernel) hc0 (fun H locs h1 hPC S => ?_)
  refine lv_aload_n hx hb (show decode code 743 = .ok (.aload_n 2, 1) by decide +kernel) rfl (lv_at hl 2 rfl) ?_
  refine l_callML (pc := 744) (as := []) (rest := [.long (Int64.ofInt r)]) F S hl.1 hcs lwL_X8_orders rfl (Nat.le_of_ble_eq_true rfl) (Nat.le_of_ble_eq_true rfl) (show decode code 744 = .ok (.invokevirtual 108, 3) by decide +kernel) hm0 (fun H locs k1 hPM S => ?_)
  exact l_cmpL (pc := 747) hx hb hr0 (show decode code 747 = .ok (.lcmp, 1) by decide +kernel) (show decode code 748 = .ok (.ifCond .eq 520, 3) by decide +kernel) (by decide) (kk H locs h1 k1 (hrel _ _ hPC hPM) S)
theorem lc_22 (F : lwF p s m meth c b L xs D tc aC aM) (S : lwS s D tc aC aM H locs h k) (hl : lwLs lsA b (aC 0) (aM 0) i) (hi : i + 5 ≤ L) (hcs : cells ≤ room_1.cells ∧ slots ≤ room_1.slots) (hR : Rel h k) (kk : lwKK p l e s m below meth c b D tc aC aM cells slots Q lsA) : W p l e room_1 s m #[Value.ref b] below meth c H locs cells slots Q (F0 m 753 lsA []) := by
  obtain ⟨hx, hb, hml, hlk, hret, hown, hts, -⟩ := id F
  obtain ⟨r, PC, PM, hr0, hc0, hm0, hrel⟩ := AIT_of (fun h k hR => Q_order ((lwV (xs (i + 1)) (xs (i + 2))).toInt) ((xs (i + 3)).toInt) (lw_inL _) (lw_inI _) hR) h k hR
  refine lv_aload_n hx hb (show decode code 753 = .ok (.aload_n 1, 1) by decide +kernel) rfl (lv_at hl 1 rfl) ?_
  refine l_arg (pc := 754) (n := 1) F S hl hi (by decide) (show decode code 754 = .ok (.aload_n 0, 1) by decide +kernel) (show decode code 755 = .ok (.iload_n 3, 1) by decide +kernel) (show decode code 756 = .ok (.iconst 1, 1) by decide +kernel) (show decode code 757 = .ok (.iadd, 1) by decide +kernel) (show decode code 758 = .ok (.iaload, 1) by decide +kernel) ?_
  refine lv_i2l hx hb (show decode code 759 = .ok (.i2l, 1) by decide +kernel) rfl ?_
  refine lv_bipush hx hb (v := 32) (show decode code 760 = .ok (.bipush 32, 2) by decide +kernel) (by decide) ?_
  refine lv_lshl hx hb (show decode code 762 = .ok (.lshl, 1) by decide +kernel) rfl ?_
  refine l_arg (pc := 763) (n := 2) F S hl hi (by decide) (show decode code 763 = .ok (.aload_n 0, 1) by decide +kernel) (show decode code 764 = .ok (.iload_n 3, 1) by decide +kernel) (show decode code 765 = .ok (.iconst 2, 1) by decide +kernel) (show decode code 766 = .ok (.iadd, 1) by decide +kernel) (show decode code 767 = .ok (.iaload, 1) by decide +kernel) ?_
  refine lv_i2l hx hb (show decode code 768 = .ok (.i2l, 1) by decide +kernel) rfl ?_
  refine lv_ldc2 hx hb hown (v := 4294967295) (hts _ (List.mem_filter.mp (tblG_m6 175 rfl rfl)).1) (show decode code 769 = .ok (.ldc2_w 109, 3) by decide +kernel) ?_
  refine lv_land hx hb (show decode code 772 = .ok (.land, 1) by decide +kernel) ?_
  refine lv_lor hx hb (show decode code 773 = .ok (.lor, 1) by decide +kernel) ?_
  refine l_wl (V := (lwV (xs (i + 1)) (xs (i + 2)))) (by simp only [lw_ofInt]; rfl) ?_
  refine l_arg (pc := 774) (n := 3) F S hl hi (by decide) (show decode code 774 = .ok (.aload_n 0, 1) by decide +kernel) (show decode code 775 = .ok (.iload_n 3, 1) by decide +kernel) (show decode code 776 = .ok (.iconst 3, 1) by decide +kernel) (show decode code 777 = .ok (.iadd, 1) by decide +kernel) (show decode code 778 = .ok (.iaload, 1) by decide +kernel) ?_
  refine l_callC (pc := 779) (as := [.inr (.inl (lwV (xs (i + 1)) (xs (i + 2))).toInt), .inl (xs (i + 3)).toInt]) (rest := []) F S hl.1 hcs lwL_X7_order rfl (Nat.le_of_ble_eq_true rfl) (Nat.le_of_ble_eq_true rfl) (show decode code 779 = .ok (.invokevirtual 111, 3) by decide +kernel) hc0 (fun H locs h1 hPC S => ?_)
  refine lv_aload_n hx hb (show decode code 782 = .ok (.aload_n 2, 1) by decide +kernel) rfl (lv_at hl 2 rfl) ?_
  refine l_arg (pc := 783) (n := 1) F S hl hi (by decide) (show decode code 783 = .ok (.aload_n 0, 1) by decide +kernel) (show decode code 784 = .ok (.iload_n 3, 1) by decide +kernel) (show decode code 785 = .ok (.iconst 1, 1) by decide +kernel) (show decode code 786 = .ok (.iadd, 1) by decide +kernel) (show decode code 787 = .ok (.iaload, 1) by decide +kernel) ?_
  refine lv_i2l hx hb (show decode code 788 = .ok (.i2l, 1) by decide +kernel) rfl ?_
  refine lv_bipush hx hb (v := 32) (show decode code 789 = .ok (.bipush 32, 2) by decide +kernel) (by decide) ?_
  refine lv_lshl hx hb (show decode code 791 = .ok (.lshl, 1) by decide +kernel) rfl ?_
  refine l_arg (pc := 792) (n := 2) F S hl hi (by decide) (show decode code 792 = .ok (.aload_n 0, 1) by decide +kernel) (show decode code 793 = .ok (.iload_n 3, 1) by decide +kernel) (show decode code 794 = .ok (.iconst 2, 1) by decide +kernel) (show decode code 795 = .ok (.iadd, 1) by decide +kernel) (show decode code 796 = .ok (.iaload, 1) by decide +kernel) ?_
  refine lv_i2l hx hb (show decode code 797 = .ok (.i2l, 1) by decide +kernel) rfl ?_
  refine lv_ldc2 hx hb hown (v := 4294967295) (hts _ (List.mem_filter.mp (tblG_m6 175 rfl rfl)).1) (show decode code 798 = .ok (.ldc2_w 109, 3) by decide +kernel) ?_
  refine lv_land hx hb (show decode code 801 = .ok (.land, 1) by decide +kernel) ?_
  refine lv_lor hx hb (show decode code 802 = .ok (.lor, 1) by decide +kernel) ?_
  refine l_wl (V := (lwV (xs (i + 1)) (xs (i + 2)))) (by simp only [lw_ofInt]; rfl) ?_
  refine l_arg (pc := 803) (n := 3) F S hl hi (by decide) (show decode code 803 = .ok (.aload_n 0, 1) by decide +kernel) (show decode code 804 = .ok (.iload_n 3, 1) by decide +kernel) (show decode code 805 = .ok (.iconst 3, 1) by decide +kernel) (show decode code 806 = .ok (.iadd, 1) by decide +kernel) (show decode code 807 = .ok (.iaload, 1) by decide +kernel) ?_
  refine l_callM (pc := 808) (as := [.inr (.inl (lwV (xs (i + 1)) (xs (i + 2))).toInt), .inl (xs (i + 3)).toInt]) (rest := [.int (Int32.ofInt r)]) F S hl.1 hcs lwL_X8_order rfl (Nat.le_of_ble_eq_true rfl) (Nat.le_of_ble_eq_true rfl) (show decode code 808 = .ok (.invokevirtual 115, 3) by decide +kernel) hm0 (fun H locs k1 hPM S => ?_)
  exact l_cmpI (pc := 811) hx hb (show decode code 811 = .ok (.if_icmp .eq 457, 3) by decide +kernel) (by decide) (kk H locs h1 k1 (hrel _ _ hPC hPM) S)
theorem lc_23 (F : lwF p s m meth c b L xs D tc aC aM) (S : lwS s D tc aC aM H locs h k) (hl : lwLs lsA b (aC 0) (aM 0) i) (hi : i + 5 ≤ L) (hcs : cells ≤ room_1.cells ∧ slots ≤ room_1.slots) (hR : Rel h k) (kk : lwKK p l e s m below meth c b D tc aC aM cells slots Q lsA) : W p l e room_1 s m #[Value.ref b] below meth c H locs cells slots Q (F0 m 816 lsA []) := by
  obtain ⟨hx, hb, hml, hlk, hret, hown, hts, -⟩ := id F
  obtain ⟨r, PC, PM, hr0, hc0, hm0, hrel⟩ := AIT_of (fun h k hR => Q_travel   hR) h k hR
  refine lv_aload_n hx hb (show decode code 816 = .ok (.aload_n 1, 1) by decide +kernel) rfl (lv_at hl 1 rfl) ?_
  refine l_callC (pc := 817) (as := []) (rest := []) F S hl.1 hcs lwL_X7_travel rfl (Nat.le_of_ble_eq_true rfl) (Nat.le_of_ble_eq_true rfl) (show decode code 817 = .ok (.invokevirtual 116, 3) by decide +kernel) hc0 (fun H locs h1 hPC S => ?_)
  refine lv_aload_n hx hb (show decode code 820 = .ok (.aload_n 2, 1) by decide +kernel) rfl (lv_at hl 2 rfl) ?_
  refine l_callM (pc := 821) (as := []) (rest := [.int (Int32.ofInt r)]) F S hl.1 hcs lwL_X8_travel rfl (Nat.le_of_ble_eq_true rfl) (Nat.le_of_ble_eq_true rfl) (show decode code 821 = .ok (.invokevirtual 119, 3) by decide +kernel) hm0 (fun H locs k1 hPM S => ?_)
  exact l_cmpI (pc := 824) hx hb (show decode code 824 = .ok (.if_icmp .eq 444, 3) by decide +kernel) (by decide) (kk H locs h1 k1 (hrel _ _ hPC hPM) S)
theorem lc_24 (F : lwF p s m meth c b L xs D tc aC aM) (S : lwS s D tc aC aM H locs h k) (hl : lwLs lsA b (aC 0) (aM 0) i) (hi : i + 5 ≤ L) (hcs : cells ≤ room_1.cells ∧ slots ≤ room_1.slots) (hR : Rel h k) (kk : lwKK p l e s m below meth c b D tc aC aM cells slots Q lsA) : W p l e room_1 s m #[Value.ref b] below meth c H locs cells slots Q (F0 m 829 lsA []) := by
  obtain ⟨hx, hb, hml, hlk, hret, hown, hts, -⟩ := id F
  obtain ⟨r, PC, PM, hr0, hc0, hm0, hrel⟩ := AIT_of (fun h k hR => Q_along ((xs (i + 1)).toInt) (lw_inI _) hR) h k hR
  refine lv_aload_n hx hb (show decode code 829 = .ok (.aload_n 1, 1) by decide +kernel) rfl (lv_at hl 1 rfl) ?_
  refine l_arg (pc := 830) (n := 1) F S hl hi (by decide) (show decode code 830 = .ok (.aload_n 0, 1) by decide +kernel) (show decode code 831 = .ok (.iload_n 3, 1) by decide +kernel) (show decode code 832 = .ok (.iconst 1, 1) by decide +kernel) (show decode code 833 = .ok (.iadd, 1) by decide +kernel) (show decode code 834 = .ok (.iaload, 1) by decide +kernel) ?_
  refine l_callC (pc := 835) (as := [.inl (xs (i + 1)).toInt]) (rest := []) F S hl.1 hcs lwL_X7_along rfl (Nat.le_of_ble_eq_true rfl) (Nat.le_of_ble_eq_true rfl) (show decode code 835 = .ok (.invokevirtual 120, 3) by decide +kernel) hc0 (fun H locs h1 hPC S => ?_)
  refine lv_aload_n hx hb (show decode code 838 = .ok (.aload_n 2, 1) by decide +kernel) rfl (lv_at hl 2 rfl) ?_
  refine l_arg (pc := 839) (n := 1) F S hl hi (by decide) (show decode code 839 = .ok (.aload_n 0, 1) by decide +kernel) (show decode code 840 = .ok (.iload_n 3, 1) by decide +kernel) (show decode code 841 = .ok (.iconst 1, 1) by decide +kernel) (show decode code 842 = .ok (.iadd, 1) by decide +kernel) (show decode code 843 = .ok (.iaload, 1) by decide +kernel) ?_
  refine l_callM (pc := 844) (as := [.inl (xs (i + 1)).toInt]) (rest := [.int (Int32.ofInt r)]) F S hl.1 hcs lwL_X8_along rfl (Nat.le_of_ble_eq_true rfl) (Nat.le_of_ble_eq_true rfl) (show decode code 844 = .ok (.invokevirtual 123, 3) by decide +kernel) hm0 (fun H locs k1 hPM S => ?_)
  exact l_cmpI (pc := 847) hx hb (show decode code 847 = .ok (.if_icmp .eq 421, 3) by decide +kernel) (by decide) (kk H locs h1 k1 (hrel _ _ hPC hPM) S)
theorem lc_25 (F : lwF p s m meth c b L xs D tc aC aM) (S : lwS s D tc aC aM H locs h k) (hl : lwLs lsA b (aC 0) (aM 0) i) (hi : i + 5 ≤ L) (hcs : cells ≤ room_1.cells ∧ slots ≤ room_1.slots) (hR : Rel h k) (kk : lwKK p l e s m below meth c b D tc aC aM cells slots Q lsA) : W p l e room_1 s m #[Value.ref b] below meth c H locs cells slots Q (F0 m 852 lsA []) := by
  obtain ⟨hx, hb, hml, hlk, hret, hown, hts, -⟩ := id F
  obtain ⟨r, PC, PM, hr0, hc0, hm0, hrel⟩ := AI_of (fun h k hR => Q_pairs ((xs (i + 1)).toInt) (lw_inI _) hR) h k hR
  refine lv_aload_n hx hb (show decode code 852 = .ok (.aload_n 1, 1) by decide +kernel) rfl (lv_at hl 1 rfl) ?_
  refine l_arg (pc := 853) (n := 1) F S hl hi (by decide) (show decode code 853 = .ok (.aload_n 0, 1) by decide +kernel) (show decode code 854 = .ok (.iload_n 3, 1) by decide +kernel) (show decode code 855 = .ok (.iconst 1, 1) by decide +kernel) (show decode code 856 = .ok (.iadd, 1) by decide +kernel) (show decode code 857 = .ok (.iaload, 1) by decide +kernel) ?_
  refine l_callC (pc := 858) (as := [.inl (xs (i + 1)).toInt]) (rest := []) F S hl.1 hcs lwL_X7_pairs rfl (Nat.le_of_ble_eq_true rfl) (Nat.le_of_ble_eq_true rfl) (show decode code 858 = .ok (.invokevirtual 124, 3) by decide +kernel) hc0 (fun H locs h1 hPC S => ?_)
  refine lv_aload_n hx hb (show decode code 861 = .ok (.aload_n 2, 1) by decide +kernel) rfl (lv_at hl 2 rfl) ?_
  refine l_arg (pc := 862) (n := 1) F S hl hi (by decide) (show decode code 862 = .ok (.aload_n 0, 1) by decide +kernel) (show decode code 863 = .ok (.iload_n 3, 1) by decide +kernel) (show decode code 864 = .ok (.iconst 1, 1) by decide +kernel) (show decode code 865 = .ok (.iadd, 1) by decide +kernel) (show decode code 866 = .ok (.iaload, 1) by decide +kernel) ?_
  refine l_callM (pc := 867) (as := [.inl (xs (i + 1)).toInt]) (rest := [.int (Int32.ofInt r)]) F S hl.1 hcs lwL_X8_pairs rfl (Nat.le_of_ble_eq_true rfl) (Nat.le_of_ble_eq_true rfl) (show decode code 867 = .ok (.invokevirtual 127, 3) by decide +kernel) hm0 (fun H locs k1 hPM S => ?_)
  exact l_cmpI (pc := 870) hx hb (show decode code 870 = .ok (.if_icmp .eq 398, 3) by decide +kernel) (by decide) (kk H locs h1 k1 (hrel _ _ hPC hPM) S)
theorem lc_26 (F : lwF p s m meth c b L xs D tc aC aM) (S : lwS s D tc aC aM H locs h k) (hl : lwLs lsA b (aC 0) (aM 0) i) (hi : i + 5 ≤ L) (hcs : cells ≤ room_1.cells ∧ slots ≤ room_1.slots) (hR : Rel h k) (kk : lwKK p l e s m below meth c b D tc aC aM cells slots Q lsA) : W p l e room_1 s m #[Value.ref b] below meth c H locs cells slots Q (F0 m 875 lsA []) := by
  obtain ⟨hx, hb, hml, hlk, hret, hown, hts, -⟩ := id F
  obtain ⟨r, PC, PM, hr0, hc0, hm0, hrel⟩ := AI_of (fun h k hR => Q_hang ((xs (i + 1)).toInt) ((xs (i + 2)).toInt) (lw_inI _) (lw_inI _) hR) h k hR
  refine lv_aload_n hx hb (show decode code 875 = .ok (.aload_n 1, 1) by decide +kernel) rfl (lv_at hl 1 rfl) ?_
  refine l_arg (pc := 876) (n := 1) F S hl hi (by decide) (show decode code 876 = .ok (.aload_n 0, 1) by decide +kernel) (show decode code 877 = .ok (.iload_n 3, 1) by decide +kernel) (show decode code 878 = .ok (.iconst 1, 1) by decide +kernel) (show decode code 879 = .ok (.iadd, 1) by decide +kernel) (show decode code 880 = .ok (.iaload, 1) by decide +kernel) ?_
  refine l_arg (pc := 881) (n := 2) F S hl hi (by decide) (show decode code 881 = .ok (.aload_n 0, 1) by decide +kernel) (show decode code 882 = .ok (.iload_n 3, 1) by decide +kernel) (show decode code 883 = .ok (.iconst 2, 1) by decide +kernel) (show decode code 884 = .ok (.iadd, 1) by decide +kernel) (show decode code 885 = .ok (.iaload, 1) by decide +kernel) ?_
  refine l_callC (pc := 886) (as := [.inl (xs (i + 1)).toInt, .inl (xs (i + 2)).toInt]) (rest := []) F S hl.1 hcs lwL_X7_hang rfl (Nat.le_of_ble_eq_true rfl) (Nat.le_of_ble_eq_true rfl) (show decode code 886 = .ok (.invokevirtual 128, 3) by decide +kernel) hc0 (fun H locs h1 hPC S => ?_)
  refine lv_aload_n hx hb (show decode code 889 = .ok (.aload_n 2, 1) by decide +kernel) rfl (lv_at hl 2 rfl) ?_
  refine l_arg (pc := 890) (n := 1) F S hl hi (by decide) (show decode code 890 = .ok (.aload_n 0, 1) by decide +kernel) (show decode code 891 = .ok (.iload_n 3, 1) by decide +kernel) (show decode code 892 = .ok (.iconst 1, 1) by decide +kernel) (show decode code 893 = .ok (.iadd, 1) by decide +kernel) (show decode code 894 = .ok (.iaload, 1) by decide +kernel) ?_
  refine l_arg (pc := 895) (n := 2) F S hl hi (by decide) (show decode code 895 = .ok (.aload_n 0, 1) by decide +kernel) (show decode code 896 = .ok (.iload_n 3, 1) by decide +kernel) (show decode code 897 = .ok (.iconst 2, 1) by decide +kernel) (show decode code 898 = .ok (.iadd, 1) by decide +kernel) (show decode code 899 = .ok (.iaload, 1) by decide +kernel) ?_
  refine l_callM (pc := 900) (as := [.inl (xs (i + 1)).toInt, .inl (xs (i + 2)).toInt]) (rest := [.int (Int32.ofInt r)]) F S hl.1 hcs lwL_X8_hang rfl (Nat.le_of_ble_eq_true rfl) (Nat.le_of_ble_eq_true rfl) (show decode code 900 = .ok (.invokevirtual 131, 3) by decide +kernel) hm0 (fun H locs k1 hPM S => ?_)
  exact l_cmpI (pc := 903) hx hb (show decode code 903 = .ok (.if_icmp .eq 365, 3) by decide +kernel) (by decide) (kk H locs h1 k1 (hrel _ _ hPC hPM) S)
theorem lc_27 (F : lwF p s m meth c b L xs D tc aC aM) (S : lwS s D tc aC aM H locs h k) (hl : lwLs lsA b (aC 0) (aM 0) i) (hi : i + 5 ≤ L) (hcs : cells ≤ room_1.cells ∧ slots ≤ room_1.slots) (hR : Rel h k) (kk : lwKK p l e s m below meth c b D tc aC aM cells slots Q lsA) : W p l e room_1 s m #[Value.ref b] below meth c H locs cells slots Q (F0 m 908 lsA []) := by
  obtain ⟨hx, hb, hml, hlk, hret, hown, hts, -⟩ := id F
  obtain ⟨r, PC, PM, hr0, hc0, hm0, hrel⟩ := A_draft ((xs (i + 1)).toInt) (lw_inI _) h k hR
  refine lv_aload_n hx hb (show decode code 908 = .ok (.aload_n 1, 1) by decide +kernel) rfl (lv_at hl 1 rfl) ?_
  refine l_arg (pc := 909) (n := 1) F S hl hi (by decide) (show decode code 909 = .ok (.aload_n 0, 1) by decide +kernel) (show decode code 910 = .ok (.iload_n 3, 1) by decide +kernel) (show decode code 911 = .ok (.iconst 1, 1) by decide +kernel) (show decode code 912 = .ok (.iadd, 1) by decide +kernel) (show decode code 913 = .ok (.iaload, 1) by decide +kernel) ?_
  refine l_callC (pc := 914) (as := [.inl (xs (i + 1)).toInt]) (rest := []) F S hl.1 hcs lwL_X7_draft rfl (Nat.le_of_ble_eq_true rfl) (Nat.le_of_ble_eq_true rfl) (show decode code 914 = .ok (.invokevirtual 132, 3) by decide +kernel) hc0 (fun H locs h1 hPC S => ?_)
  refine lv_aload_n hx hb (show decode code 917 = .ok (.aload_n 2, 1) by decide +kernel) rfl (lv_at hl 2 rfl) ?_
  refine l_arg (pc := 918) (n := 1) F S hl hi (by decide) (show decode code 918 = .ok (.aload_n 0, 1) by decide +kernel) (show decode code 919 = .ok (.iload_n 3, 1) by decide +kernel) (show decode code 920 = .ok (.iconst 1, 1) by decide +kernel) (show decode code 921 = .ok (.iadd, 1) by decide +kernel) (show decode code 922 = .ok (.iaload, 1) by decide +kernel) ?_
  refine l_callM (pc := 923) (as := [.inl (xs (i + 1)).toInt]) (rest := [.int (Int32.ofInt r)]) F S hl.1 hcs lwL_X8_draft rfl (Nat.le_of_ble_eq_true rfl) (Nat.le_of_ble_eq_true rfl) (show decode code 923 = .ok (.invokevirtual 135, 3) by decide +kernel) hm0 (fun H locs k1 hPM S => ?_)
  exact l_cmpI (pc := 926) hx hb (show decode code 926 = .ok (.if_icmp .eq 342, 3) by decide +kernel) (by decide) (kk H locs h1 k1 (hrel _ _ hPC hPM) S)
theorem lc_28 (F : lwF p s m meth c b L xs D tc aC aM) (S : lwS s D tc aC aM H locs h k) (hl : lwLs lsA b (aC 0) (aM 0) i) (hi : i + 5 ≤ L) (hcs : cells ≤ room_1.cells ∧ slots ≤ room_1.slots) (hR : Rel h k) (kk : lwKK p l e s m below meth c b D tc aC aM cells slots Q lsA) : W p l e room_1 s m #[Value.ref b] below meth c H locs cells slots Q (F0 m 931 lsA []) := by
  obtain ⟨hx, hb, hml, hlk, hret, hown, hts, -⟩ := id F
  obtain ⟨r, PC, PM, hr0, hc0, hm0, hrel⟩ := AI_of (fun h k hR => Q_paper ((xs (i + 1)).toInt) (lw_inI _) hR) h k hR
  refine lv_aload_n hx hb (show decode code 931 = .ok (.aload_n 1, 1) by decide +kernel) rfl (lv_at hl 1 rfl) ?_
  refine l_arg (pc := 932) (n := 1) F S hl hi (by decide) (show decode code 932 = .ok (.aload_n 0, 1) by decide +kernel) (show decode code 933 = .ok (.iload_n 3, 1) by decide +kernel) (show decode code 934 = .ok (.iconst 1, 1) by decide +kernel) (show decode code 935 = .ok (.iadd, 1) by decide +kernel) (show decode code 936 = .ok (.iaload, 1) by decide +kernel) ?_
  refine l_callC (pc := 937) (as := [.inl (xs (i + 1)).toInt]) (rest := []) F S hl.1 hcs lwL_X7_paper rfl (Nat.le_of_ble_eq_true rfl) (Nat.le_of_ble_eq_true rfl) (show decode code 937 = .ok (.invokevirtual 136, 3) by decide +kernel) hc0 (fun H locs h1 hPC S => ?_)
  refine lv_aload_n hx hb (show decode code 940 = .ok (.aload_n 2, 1) by decide +kernel) rfl (lv_at hl 2 rfl) ?_
  refine l_arg (pc := 941) (n := 1) F S hl hi (by decide) (show decode code 941 = .ok (.aload_n 0, 1) by decide +kernel) (show decode code 942 = .ok (.iload_n 3, 1) by decide +kernel) (show decode code 943 = .ok (.iconst 1, 1) by decide +kernel) (show decode code 944 = .ok (.iadd, 1) by decide +kernel) (show decode code 945 = .ok (.iaload, 1) by decide +kernel) ?_
  refine l_callM (pc := 946) (as := [.inl (xs (i + 1)).toInt]) (rest := [.int (Int32.ofInt r)]) F S hl.1 hcs lwL_X8_paper rfl (Nat.le_of_ble_eq_true rfl) (Nat.le_of_ble_eq_true rfl) (show decode code 946 = .ok (.invokevirtual 139, 3) by decide +kernel) hm0 (fun H locs k1 hPM S => ?_)
  exact l_cmpI (pc := 949) hx hb (show decode code 949 = .ok (.if_icmp .eq 319, 3) by decide +kernel) (by decide) (kk H locs h1 k1 (hrel _ _ hPC hPM) S)
theorem lc_29 (F : lwF p s m meth c b L xs D tc aC aM) (S : lwS s D tc aC aM H locs h k) (hl : lwLs lsA b (aC 0) (aM 0) i) (hi : i + 5 ≤ L) (hcs : cells ≤ room_1.cells ∧ slots ≤ room_1.slots) (hR : Rel h k) (kk : lwKK p l e s m below meth c b D tc aC aM cells slots Q lsA) : W p l e room_1 s m #[Value.ref b] below meth c H locs cells slots Q (F0 m 954 lsA []) := by
  obtain ⟨hx, hb, hml, hlk, hret, hown, hts, -⟩ := id F
  obtain ⟨r, PC, PM, hr0, hc0, hm0, hrel⟩ := A_lay ((xs (i + 1)).toInt) ((xs (i + 2)).toInt) (lw_inI _) (lw_inI _) h k hR
  refine lv_aload_n hx hb (show decode code 954 = .ok (.aload_n 1, 1) by decide +kernel) rfl (lv_at hl 1 rfl) ?_
  refine l_arg (pc := 955) (n := 1) F S hl hi (by decide) (show decode code 955 = .ok (.aload_n 0, 1) by decide +kernel) (show decode code 956 = .ok (.iload_n 3, 1) by decide +kernel) (show decode code 957 = .ok (.iconst 1, 1) by decide +kernel) (show decode code 958 = .ok (.iadd, 1) by decide +kernel) (show decode code 959 = .ok (.iaload, 1) by decide +kernel) ?_
  refine l_arg (pc := 960) (n := 2) F S hl hi (by decide) (show decode code 960 = .ok (.aload_n 0, 1) by decide +kernel) (show decode code 961 = .ok (.iload_n 3, 1) by decide +kernel) (show decode code 962 = .ok (.iconst 2, 1) by decide +kernel) (show decode code 963 = .ok (.iadd, 1) by decide +kernel) (show decode code 964 = .ok (.iaload, 1) by decide +kernel) ?_
  refine l_callC (pc := 965) (as := [.inl (xs (i + 1)).toInt, .inl (xs (i + 2)).toInt]) (rest := []) F S hl.1 hcs lwL_X7_lay rfl (Nat.le_of_ble_eq_true rfl) (Nat.le_of_ble_eq_true rfl) (show decode code 965 = .ok (.invokevirtual 140, 3) by decide +kernel) hc0 (fun H locs h1 hPC S => ?_)
  refine lv_aload_n hx hb (show decode code 968 = .ok (.aload_n 2, 1) by decide +kernel) rfl (lv_at hl 2 rfl) ?_
  refine l_arg (pc := 969) (n := 1) F S hl hi (by decide) (show decode code 969 = .ok (.aload_n 0, 1) by decide +kernel) (show decode code 970 = .ok (.iload_n 3, 1) by decide +kernel) (show decode code 971 = .ok (.iconst 1, 1) by decide +kernel) (show decode code 972 = .ok (.iadd, 1) by decide +kernel) (show decode code 973 = .ok (.iaload, 1) by decide +kernel) ?_
  refine l_arg (pc := 974) (n := 2) F S hl hi (by decide) (show decode code 974 = .ok (.aload_n 0, 1) by decide +kernel) (show decode code 975 = .ok (.iload_n 3, 1) by decide +kernel) (show decode code 976 = .ok (.iconst 2, 1) by decide +kernel) (show decode code 977 = .ok (.iadd, 1) by decide +kernel) (show decode code 978 = .ok (.iaload, 1) by decide +kernel) ?_
  refine l_callM (pc := 979) (as := [.inl (xs (i + 1)).toInt, .inl (xs (i + 2)).toInt]) (rest := [.int (Int32.ofInt r)]) F S hl.1 hcs lwL_X8_lay rfl (Nat.le_of_ble_eq_true rfl) (Nat.le_of_ble_eq_true rfl) (show decode code 979 = .ok (.invokevirtual 143, 3) by decide +kernel) hm0 (fun H locs k1 hPM S => ?_)
  exact l_cmpI (pc := 982) hx hb (show decode code 982 = .ok (.if_icmp .eq 286, 3) by decide +kernel) (by decide) (kk H locs h1 k1 (hrel _ _ hPC hPM) S)
theorem lc_30 (F : lwF p s m meth c b L xs D tc aC aM) (S : lwS s D tc aC aM H locs h k) (hl : lwLs lsA b (aC 0) (aM 0) i) (hi : i + 5 ≤ L) (hcs : cells ≤ room_1.cells ∧ slots ≤ room_1.slots) (hR : Rel h k) (kk : lwKK p l e s m below meth c b D tc aC aM cells slots Q lsA) : W p l e room_1 s m #[Value.ref b] below meth c H locs cells slots Q (F0 m 987 lsA []) := by
  obtain ⟨hx, hb, hml, hlk, hret, hown, hts, -⟩ := id F
  obtain ⟨r, PC, PM, hr0, hc0, hm0, hrel⟩ := A_seen ((xs (i + 1)).toInt) ((xs (i + 2)).toInt) ((xs (i + 3)).toInt) (lw_inI _) (lw_inI _) (lw_inI _) h k hR
  refine lv_aload_n hx hb (show decode code 987 = .ok (.aload_n 1, 1) by decide +kernel) rfl (lv_at hl 1 rfl) ?_
  refine l_arg (pc := 988) (n := 1) F S hl hi (by decide) (show decode code 988 = .ok (.aload_n 0, 1) by decide +kernel) (show decode code 989 = .ok (.iload_n 3, 1) by decide +kernel) (show decode code 990 = .ok (.iconst 1, 1) by decide +kernel) (show decode code 991 = .ok (.iadd, 1) by decide +kernel) (show decode code 992 = .ok (.iaload, 1) by decide +kernel) ?_
  refine l_arg (pc := 993) (n := 2) F S hl hi (by decide) (show decode code 993 = .ok (.aload_n 0, 1) by decide +kernel) (show decode code 994 = .ok (.iload_n 3, 1) by decide +kernel) (show decode code 995 = .ok (.iconst 2, 1) by decide +kernel) (show decode code 996 = .ok (.iadd, 1) by decide +kernel) (show decode code 997 = .ok (.iaload, 1) by decide +kernel) ?_
  refine l_arg (pc := 998) (n := 3) F S hl hi (by decide) (show decode code 998 = .ok (.aload_n 0, 1) by decide +kernel) (show decode code 999 = .ok (.iload_n 3, 1) by decide +kernel) (show decode code 1000 = .ok (.iconst 3, 1) by decide +kernel) (show decode code 1001 = .ok (.iadd, 1) by decide +kernel) (show decode code 1002 = .ok (.iaload, 1) by decide +kernel) ?_
  refine l_callC (pc := 1003) (as := [.inl (xs (i + 1)).toInt, .inl (xs (i + 2)).toInt, .inl (xs (i + 3)).toInt]) (rest := []) F S hl.1 hcs lwL_X7_seen rfl (Nat.le_of_ble_eq_true rfl) (Nat.le_of_ble_eq_true rfl) (show decode code 1003 = .ok (.invokevirtual 144, 3) by decide +kernel) hc0 (fun H locs h1 hPC S => ?_)
  refine lv_aload_n hx hb (show decode code 1006 = .ok (.aload_n 2, 1) by decide +kernel) rfl (lv_at hl 2 rfl) ?_
  refine l_arg (pc := 1007) (n := 1) F S hl hi (by decide) (show decode code 1007 = .ok (.aload_n 0, 1) by decide +kernel) (show decode code 1008 = .ok (.iload_n 3, 1) by decide +kernel) (show decode code 1009 = .ok (.iconst 1, 1) by decide +kernel) (show decode code 1010 = .ok (.iadd, 1) by decide +kernel) (show decode code 1011 = .ok (.iaload, 1) by decide +kernel) ?_
  refine l_arg (pc := 1012) (n := 2) F S hl hi (by decide) (show decode code 1012 = .ok (.aload_n 0, 1) by decide +kernel) (show decode code 1013 = .ok (.iload_n 3, 1) by decide +kernel) (show decode code 1014 = .ok (.iconst 2, 1) by decide +kernel) (show decode code 1015 = .ok (.iadd, 1) by decide +kernel) (show decode code 1016 = .ok (.iaload, 1) by decide +kernel) ?_
  refine l_arg (pc := 1017) (n := 3) F S hl hi (by decide) (show decode code 1017 = .ok (.aload_n 0, 1) by decide +kernel) (show decode code 1018 = .ok (.iload_n 3, 1) by decide +kernel) (show decode code 1019 = .ok (.iconst 3, 1) by decide +kernel) (show decode code 1020 = .ok (.iadd, 1) by decide +kernel) (show decode code 1021 = .ok (.iaload, 1) by decide +kernel) ?_
  refine l_callM (pc := 1022) (as := [.inl (xs (i + 1)).toInt, .inl (xs (i + 2)).toInt, .inl (xs (i + 3)).toInt]) (rest := [.int (Int32.ofInt r)]) F S hl.1 hcs lwL_X8_seen rfl (Nat.le_of_ble_eq_true rfl) (Nat.le_of_ble_eq_true rfl) (show decode code 1022 = .ok (.invokevirtual 147, 3) by decide +kernel) hm0 (fun H locs k1 hPM S => ?_)
  exact l_cmpI (pc := 1025) hx hb (show decode code 1025 = .ok (.if_icmp .eq 243, 3) by decide +kernel) (by decide) (kk H locs h1 k1 (hrel _ _ hPC hPM) S)
theorem lc_31 (F : lwF p s m meth c b L xs D tc aC aM) (S : lwS s D tc aC aM H locs h k) (hl : lwLs lsA b (aC 0) (aM 0) i) (hi : i + 5 ≤ L) (hcs : cells ≤ room_1.cells ∧ slots ≤ room_1.slots) (hR : Rel h k) (kk : lwKK p l e s m below meth c b D tc aC aM cells slots Q lsA) : W p l e room_1 s m #[Value.ref b] below meth c H locs cells slots Q (F0 m 1030 lsA []) := by
  obtain ⟨hx, hb, hml, hlk, hret, hown, hts, -⟩ := id F
  obtain ⟨r, PC, PM, hr0, hc0, hm0, hrel⟩ := A_feed ((xs (i + 1)).toInt) (lw_inI _) h k hR
  refine lv_aload_n hx hb (show decode code 1030 = .ok (.aload_n 1, 1) by decide +kernel) rfl (lv_at hl 1 rfl) ?_
  refine l_arg (pc := 1031) (n := 1) F S hl hi (by decide) (show decode code 1031 = .ok (.aload_n 0, 1) by decide +kernel) (show decode code 1032 = .ok (.iload_n 3, 1) by decide +kernel) (show decode code 1033 = .ok (.iconst 1, 1) by decide +kernel) (show decode code 1034 = .ok (.iadd, 1) by decide +kernel) (show decode code 1035 = .ok (.iaload, 1) by decide +kernel) ?_
  refine l_callC (pc := 1036) (as := [.inl (xs (i + 1)).toInt]) (rest := []) F S hl.1 hcs lwL_X7_feed rfl (Nat.le_of_ble_eq_true rfl) (Nat.le_of_ble_eq_true rfl) (show decode code 1036 = .ok (.invokevirtual 148, 3) by decide +kernel) hc0 (fun H locs h1 hPC S => ?_)
  refine lv_aload_n hx hb (show decode code 1039 = .ok (.aload_n 2, 1) by decide +kernel) rfl (lv_at hl 2 rfl) ?_
  refine l_arg (pc := 1040) (n := 1) F S hl hi (by decide) (show decode code 1040 = .ok (.aload_n 0, 1) by decide +kernel) (show decode code 1041 = .ok (.iload_n 3, 1) by decide +kernel) (show decode code 1042 = .ok (.iconst 1, 1) by decide +kernel) (show decode code 1043 = .ok (.iadd, 1) by decide +kernel) (show decode code 1044 = .ok (.iaload, 1) by decide +kernel) ?_
  refine l_callM (pc := 1045) (as := [.inl (xs (i + 1)).toInt]) (rest := [.int (Int32.ofInt r)]) F S hl.1 hcs lwL_X8_feed rfl (Nat.le_of_ble_eq_true rfl) (Nat.le_of_ble_eq_true rfl) (show decode code 1045 = .ok (.invokevirtual 151, 3) by decide +kernel) hm0 (fun H locs k1 hPM S => ?_)
  exact l_cmpI (pc := 1048) hx hb (show decode code 1048 = .ok (.if_icmp .eq 220, 3) by decide +kernel) (by decide) (kk H locs h1 k1 (hrel _ _ hPC hPM) S)
theorem lc_32 (F : lwF p s m meth c b L xs D tc aC aM) (S : lwS s D tc aC aM H locs h k) (hl : lwLs lsA b (aC 0) (aM 0) i) (hi : i + 5 ≤ L) (hcs : cells ≤ room_1.cells ∧ slots ≤ room_1.slots) (hR : Rel h k) (kk : lwKK p l e s m below meth c b D tc aC aM cells slots Q lsA) : W p l e room_1 s m #[Value.ref b] below meth c H locs cells slots Q (F0 m 1053 lsA []) := by
  obtain ⟨hx, hb, hml, hlk, hret, hown, hts, -⟩ := id F
  obtain ⟨r, PC, PM, hr0, hc0, hm0, hrel⟩ := A_clear   h k hR
  refine lv_aload_n hx hb (show decode code 1053 = .ok (.aload_n 1, 1) by decide +kernel) rfl (lv_at hl 1 rfl) ?_
  refine l_callC (pc := 1054) (as := []) (rest := []) F S hl.1 hcs lwL_X7_clear rfl (Nat.le_of_ble_eq_true rfl) (Nat.le_of_ble_eq_true rfl) (show decode code 1054 = .ok (.invokevirtual 152, 3) by decide +kernel) hc0 (fun H locs h1 hPC S => ?_)
  refine lv_aload_n hx hb (show decode code 1057 = .ok (.aload_n 2, 1) by decide +kernel) rfl (lv_at hl 2 rfl) ?_
  refine l_callM (pc := 1058) (as := []) (rest := [.int (Int32.ofInt r)]) F S hl.1 hcs lwL_X8_clear rfl (Nat.le_of_ble_eq_true rfl) (Nat.le_of_ble_eq_true rfl) (show decode code 1058 = .ok (.invokevirtual 155, 3) by decide +kernel) hm0 (fun H locs k1 hPM S => ?_)
  exact l_cmpI (pc := 1061) hx hb (show decode code 1061 = .ok (.if_icmp .eq 207, 3) by decide +kernel) (by decide) (kk H locs h1 k1 (hrel _ _ hPC hPM) S)
theorem lc_33 (F : lwF p s m meth c b L xs D tc aC aM) (S : lwS s D tc aC aM H locs h k) (hl : lwLs lsA b (aC 0) (aM 0) i) (hi : i + 5 ≤ L) (hcs : cells ≤ room_1.cells ∧ slots ≤ room_1.slots) (hR : Rel h k) (kk : lwKK p l e s m below meth c b D tc aC aM cells slots Q lsA) : W p l e room_1 s m #[Value.ref b] below meth c H locs cells slots Q (F0 m 1066 lsA []) := by
  obtain ⟨hx, hb, hml, hlk, hret, hown, hts, -⟩ := id F
  obtain ⟨r, PC, PM, hr0, hc0, hm0, hrel⟩ := A_pricking   h k hR
  refine lv_aload_n hx hb (show decode code 1066 = .ok (.aload_n 1, 1) by decide +kernel) rfl (lv_at hl 1 rfl) ?_
  refine l_callC (pc := 1067) (as := []) (rest := []) F S hl.1 hcs lwL_X7_pricking rfl (Nat.le_of_ble_eq_true rfl) (Nat.le_of_ble_eq_true rfl) (show decode code 1067 = .ok (.invokevirtual 156, 3) by decide +kernel) hc0 (fun H locs h1 hPC S => ?_)
  refine lv_aload_n hx hb (show decode code 1070 = .ok (.aload_n 2, 1) by decide +kernel) rfl (lv_at hl 2 rfl) ?_
  refine l_callM (pc := 1071) (as := []) (rest := [.int (Int32.ofInt r)]) F S hl.1 hcs lwL_X8_pricking rfl (Nat.le_of_ble_eq_true rfl) (Nat.le_of_ble_eq_true rfl) (show decode code 1071 = .ok (.invokevirtual 159, 3) by decide +kernel) hm0 (fun H locs k1 hPM S => ?_)
  exact l_cmpI (pc := 1074) hx hb (show decode code 1074 = .ok (.if_icmp .eq 194, 3) by decide +kernel) (by decide) (kk H locs h1 k1 (hrel _ _ hPC hPM) S)
theorem lc_34 (F : lwF p s m meth c b L xs D tc aC aM) (S : lwS s D tc aC aM H locs h k) (hl : lwLs lsA b (aC 0) (aM 0) i) (hi : i + 5 ≤ L) (hcs : cells ≤ room_1.cells ∧ slots ≤ room_1.slots) (hR : Rel h k) (kk : lwKK p l e s m below meth c b D tc aC aM cells slots Q lsA) : W p l e room_1 s m #[Value.ref b] below meth c H locs cells slots Q (F0 m 1079 lsA []) := by
  obtain ⟨hx, hb, hml, hlk, hret, hown, hts, -⟩ := id F
  obtain ⟨r, PC, PM, hr0, hc0, hm0, hrel⟩ := A_list ((xs (i + 1)).toInt) ((xs (i + 2)).toInt) (lw_inI _) (lw_inI _) h k hR
  refine lv_aload_n hx hb (show decode code 1079 = .ok (.aload_n 1, 1) by decide +kernel) rfl (lv_at hl 1 rfl) ?_
  refine l_arg (pc := 1080) (n := 1) F S hl hi (by decide) (show decode code 1080 = .ok (.aload_n 0, 1) by decide +kernel) (show decode code 1081 = .ok (.iload_n 3, 1) by decide +kernel) (show decode code 1082 = .ok (.iconst 1, 1) by decide +kernel) (show decode code 1083 = .ok (.iadd, 1) by decide +kernel) (show decode code 1084 = .ok (.iaload, 1) by decide +kernel) ?_
  refine l_arg (pc := 1085) (n := 2) F S hl hi (by decide) (show decode code 1085 = .ok (.aload_n 0, 1) by decide +kernel) (show decode code 1086 = .ok (.iload_n 3, 1) by decide +kernel) (show decode code 1087 = .ok (.iconst 2, 1) by decide +kernel) (show decode code 1088 = .ok (.iadd, 1) by decide +kernel) (show decode code 1089 = .ok (.iaload, 1) by decide +kernel) ?_
  refine l_callC (pc := 1090) (as := [.inl (xs (i + 1)).toInt, .inl (xs (i + 2)).toInt]) (rest := []) F S hl.1 hcs lwL_X7_list rfl (Nat.le_of_ble_eq_true rfl) (Nat.le_of_ble_eq_true rfl) (show decode code 1090 = .ok (.invokevirtual 160, 3) by decide +kernel) hc0 (fun H locs h1 hPC S => ?_)
  refine lv_aload_n hx hb (show decode code 1093 = .ok (.aload_n 2, 1) by decide +kernel) rfl (lv_at hl 2 rfl) ?_
  refine l_arg (pc := 1094) (n := 1) F S hl hi (by decide) (show decode code 1094 = .ok (.aload_n 0, 1) by decide +kernel) (show decode code 1095 = .ok (.iload_n 3, 1) by decide +kernel) (show decode code 1096 = .ok (.iconst 1, 1) by decide +kernel) (show decode code 1097 = .ok (.iadd, 1) by decide +kernel) (show decode code 1098 = .ok (.iaload, 1) by decide +kernel) ?_
  refine l_arg (pc := 1099) (n := 2) F S hl hi (by decide) (show decode code 1099 = .ok (.aload_n 0, 1) by decide +kernel) (show decode code 1100 = .ok (.iload_n 3, 1) by decide +kernel) (show decode code 1101 = .ok (.iconst 2, 1) by decide +kernel) (show decode code 1102 = .ok (.iadd, 1) by decide +kernel) (show decode code 1103 = .ok (.iaload, 1) by decide +kernel) ?_
  refine l_callM (pc := 1104) (as := [.inl (xs (i + 1)).toInt, .inl (xs (i + 2)).toInt]) (rest := [.int (Int32.ofInt r)]) F S hl.1 hcs lwL_X8_list rfl (Nat.le_of_ble_eq_true rfl) (Nat.le_of_ble_eq_true rfl) (show decode code 1104 = .ok (.invokevirtual 163, 3) by decide +kernel) hm0 (fun H locs k1 hPM S => ?_)
  exact l_cmpI (pc := 1107) hx hb (show decode code 1107 = .ok (.if_icmp .eq 161, 3) by decide +kernel) (by decide) (kk H locs h1 k1 (hrel _ _ hPC hPM) S)
theorem lc_35 (F : lwF p s m meth c b L xs D tc aC aM) (S : lwS s D tc aC aM H locs h k) (hl : lwLs lsA b (aC 0) (aM 0) i) (hi : i + 5 ≤ L) (hcs : cells ≤ room_1.cells ∧ slots ≤ room_1.slots) (hR : Rel h k) (kk : lwKK p l e s m below meth c b D tc aC aM cells slots Q lsA) : W p l e room_1 s m #[Value.ref b] below meth c H locs cells slots Q (F0 m 1112 lsA []) := by
  obtain ⟨hx, hb, hml, hlk, hret, hown, hts, -⟩ := id F
  obtain ⟨r, PC, PM, hr0, hc0, hm0, hrel⟩ := A_set ((xs (i + 1)).toInt) ((xs (i + 2)).toInt) ((lwV (xs (i + 3)) (xs (i + 4))).toInt) (lw_inI _) (lw_inI _) (lw_inL _) h k hR
  refine lv_aload_n hx hb (show decode code 1112 = .ok (.aload_n 1, 1) by decide +kernel) rfl (lv_at hl 1 rfl) ?_
  refine l_arg (pc := 1113) (n := 1) F S hl hi (by decide) (show decode code 1113 = .ok (.aload_n 0, 1) by decide +kernel) (show decode code 1114 = .ok (.iload_n 3, 1) by decide +kernel) (show decode code 1115 = .ok (.iconst 1, 1) by decide +kernel) (show decode code 1116 = .ok (.iadd, 1) by decide +kernel) (show decode code 1117 = .ok (.iaload, 1) by decide +kernel) ?_
  refine l_arg (pc := 1118) (n := 2) F S hl hi (by decide) (show decode code 1118 = .ok (.aload_n 0, 1) by decide +kernel) (show decode code 1119 = .ok (.iload_n 3, 1) by decide +kernel) (show decode code 1120 = .ok (.iconst 2, 1) by decide +kernel) (show decode code 1121 = .ok (.iadd, 1) by decide +kernel) (show decode code 1122 = .ok (.iaload, 1) by decide +kernel) ?_
  refine l_arg (pc := 1123) (n := 3) F S hl hi (by decide) (show decode code 1123 = .ok (.aload_n 0, 1) by decide +kernel) (show decode code 1124 = .ok (.iload_n 3, 1) by decide +kernel) (show decode code 1125 = .ok (.iconst 3, 1) by decide +kernel) (show decode code 1126 = .ok (.iadd, 1) by decide +kernel) (show decode code 1127 = .ok (.iaload, 1) by decide +kernel) ?_
  refine lv_i2l hx hb (show decode code 1128 = .ok (.i2l, 1) by decide +kernel) rfl ?_
  refine lv_bipush hx hb (v := 32) (show decode code 1129 = .ok (.bipush 32, 2) by decide +kernel) (by decide) ?_
  refine lv_lshl hx hb (show decode code 1131 = .ok (.lshl, 1) by decide +kernel) rfl ?_
  refine l_arg (pc := 1132) (n := 4) F S hl hi (by decide) (show decode code 1132 = .ok (.aload_n 0, 1) by decide +kernel) (show decode code 1133 = .ok (.iload_n 3, 1) by decide +kernel) (show decode code 1134 = .ok (.iconst 4, 1) by decide +kernel) (show decode code 1135 = .ok (.iadd, 1) by decide +kernel) (show decode code 1136 = .ok (.iaload, 1) by decide +kernel) ?_
  refine lv_i2l hx hb (show decode code 1137 = .ok (.i2l, 1) by decide +kernel) rfl ?_
  refine lv_ldc2 hx hb hown (v := 4294967295) (hts _ (List.mem_filter.mp (tblG_m6 175 rfl rfl)).1) (show decode code 1138 = .ok (.ldc2_w 109, 3) by decide +kernel) ?_
  refine lv_land hx hb (show decode code 1141 = .ok (.land, 1) by decide +kernel) ?_
  refine lv_lor hx hb (show decode code 1142 = .ok (.lor, 1) by decide +kernel) ?_
  refine l_wl (V := (lwV (xs (i + 3)) (xs (i + 4)))) (by simp only [lw_ofInt]; rfl) ?_
  refine l_callC (pc := 1143) (as := [.inl (xs (i + 1)).toInt, .inl (xs (i + 2)).toInt, .inr (.inl (lwV (xs (i + 3)) (xs (i + 4))).toInt)]) (rest := []) F S hl.1 hcs lwL_X7_set rfl (Nat.le_of_ble_eq_true rfl) (Nat.le_of_ble_eq_true rfl) (show decode code 1143 = .ok (.invokevirtual 164, 3) by decide +kernel) hc0 (fun H locs h1 hPC S => ?_)
  refine lv_aload_n hx hb (show decode code 1146 = .ok (.aload_n 2, 1) by decide +kernel) rfl (lv_at hl 2 rfl) ?_
  refine l_arg (pc := 1147) (n := 1) F S hl hi (by decide) (show decode code 1147 = .ok (.aload_n 0, 1) by decide +kernel) (show decode code 1148 = .ok (.iload_n 3, 1) by decide +kernel) (show decode code 1149 = .ok (.iconst 1, 1) by decide +kernel) (show decode code 1150 = .ok (.iadd, 1) by decide +kernel) (show decode code 1151 = .ok (.iaload, 1) by decide +kernel) ?_
  refine l_arg (pc := 1152) (n := 2) F S hl hi (by decide) (show decode code 1152 = .ok (.aload_n 0, 1) by decide +kernel) (show decode code 1153 = .ok (.iload_n 3, 1) by decide +kernel) (show decode code 1154 = .ok (.iconst 2, 1) by decide +kernel) (show decode code 1155 = .ok (.iadd, 1) by decide +kernel) (show decode code 1156 = .ok (.iaload, 1) by decide +kernel) ?_
  refine l_arg (pc := 1157) (n := 3) F S hl hi (by decide) (show decode code 1157 = .ok (.aload_n 0, 1) by decide +kernel) (show decode code 1158 = .ok (.iload_n 3, 1) by decide +kernel) (show decode code 1159 = .ok (.iconst 3, 1) by decide +kernel) (show decode code 1160 = .ok (.iadd, 1) by decide +kernel) (show decode code 1161 = .ok (.iaload, 1) by decide +kernel) ?_
  refine lv_i2l hx hb (show decode code 1162 = .ok (.i2l, 1) by decide +kernel) rfl ?_
  refine lv_bipush hx hb (v := 32) (show decode code 1163 = .ok (.bipush 32, 2) by decide +kernel) (by decide) ?_
  refine lv_lshl hx hb (show decode code 1165 = .ok (.lshl, 1) by decide +kernel) rfl ?_
  refine l_arg (pc := 1166) (n := 4) F S hl hi (by decide) (show decode code 1166 = .ok (.aload_n 0, 1) by decide +kernel) (show decode code 1167 = .ok (.iload_n 3, 1) by decide +kernel) (show decode code 1168 = .ok (.iconst 4, 1) by decide +kernel) (show decode code 1169 = .ok (.iadd, 1) by decide +kernel) (show decode code 1170 = .ok (.iaload, 1) by decide +kernel) ?_
  refine lv_i2l hx hb (show decode code 1171 = .ok (.i2l, 1) by decide +kernel) rfl ?_
  refine lv_ldc2 hx hb hown (v := 4294967295) (hts _ (List.mem_filter.mp (tblG_m6 175 rfl rfl)).1) (show decode code 1172 = .ok (.ldc2_w 109, 3) by decide +kernel) ?_
  refine lv_land hx hb (show decode code 1175 = .ok (.land, 1) by decide +kernel) ?_
  refine lv_lor hx hb (show decode code 1176 = .ok (.lor, 1) by decide +kernel) ?_
  refine l_wl (V := (lwV (xs (i + 3)) (xs (i + 4)))) (by simp only [lw_ofInt]; rfl) ?_
  refine l_callM (pc := 1177) (as := [.inl (xs (i + 1)).toInt, .inl (xs (i + 2)).toInt, .inr (.inl (lwV (xs (i + 3)) (xs (i + 4))).toInt)]) (rest := [.int (Int32.ofInt r)]) F S hl.1 hcs lwL_X8_set rfl (Nat.le_of_ble_eq_true rfl) (Nat.le_of_ble_eq_true rfl) (show decode code 1177 = .ok (.invokevirtual 168, 3) by decide +kernel) hm0 (fun H locs k1 hPM S => ?_)
  exact l_cmpI (pc := 1180) hx hb (show decode code 1180 = .ok (.if_icmp .eq 88, 3) by decide +kernel) (by decide) (kk H locs h1 k1 (hrel _ _ hPC hPM) S)
theorem lc_36 (F : lwF p s m meth c b L xs D tc aC aM) (S : lwS s D tc aC aM H locs h k) (hl : lwLs lsA b (aC 0) (aM 0) i) (hi : i + 5 ≤ L) (hcs : cells ≤ room_1.cells ∧ slots ≤ room_1.slots) (hR : Rel h k) (kk : lwKK p l e s m below meth c b D tc aC aM cells slots Q lsA) : W p l e room_1 s m #[Value.ref b] below meth c H locs cells slots Q (F0 m 1185 lsA []) := by
  obtain ⟨hx, hb, hml, hlk, hret, hown, hts, -⟩ := id F
  obtain ⟨r, PC, PM, hr0, hc0, hm0, hrel⟩ := AL_of (fun h k hR => Q_get ((xs (i + 1)).toInt) ((xs (i + 2)).toInt) (lw_inI _) (lw_inI _) hR) h k hR
  refine lv_aload_n hx hb (show decode code 1185 = .ok (.aload_n 1, 1) by decide +kernel) rfl (lv_at hl 1 rfl) ?_
  refine l_arg (pc := 1186) (n := 1) F S hl hi (by decide) (show decode code 1186 = .ok (.aload_n 0, 1) by decide +kernel) (show decode code 1187 = .ok (.iload_n 3, 1) by decide +kernel) (show decode code 1188 = .ok (.iconst 1, 1) by decide +kernel) (show decode code 1189 = .ok (.iadd, 1) by decide +kernel) (show decode code 1190 = .ok (.iaload, 1) by decide +kernel) ?_
  refine l_arg (pc := 1191) (n := 2) F S hl hi (by decide) (show decode code 1191 = .ok (.aload_n 0, 1) by decide +kernel) (show decode code 1192 = .ok (.iload_n 3, 1) by decide +kernel) (show decode code 1193 = .ok (.iconst 2, 1) by decide +kernel) (show decode code 1194 = .ok (.iadd, 1) by decide +kernel) (show decode code 1195 = .ok (.iaload, 1) by decide +kernel) ?_
  refine l_callCL (pc := 1196) (as := [.inl (xs (i + 1)).toInt, .inl (xs (i + 2)).toInt]) (rest := []) F S hl.1 hcs lwL_X7_get rfl (Nat.le_of_ble_eq_true rfl) (Nat.le_of_ble_eq_true rfl) (show decode code 1196 = .ok (.invokevirtual 169, 3) by decide +kernel) hc0 (fun H locs h1 hPC S => ?_)
  refine lv_aload_n hx hb (show decode code 1199 = .ok (.aload_n 2, 1) by decide +kernel) rfl (lv_at hl 2 rfl) ?_
  refine l_arg (pc := 1200) (n := 1) F S hl hi (by decide) (show decode code 1200 = .ok (.aload_n 0, 1) by decide +kernel) (show decode code 1201 = .ok (.iload_n 3, 1) by decide +kernel) (show decode code 1202 = .ok (.iconst 1, 1) by decide +kernel) (show decode code 1203 = .ok (.iadd, 1) by decide +kernel) (show decode code 1204 = .ok (.iaload, 1) by decide +kernel) ?_
  refine l_arg (pc := 1205) (n := 2) F S hl hi (by decide) (show decode code 1205 = .ok (.aload_n 0, 1) by decide +kernel) (show decode code 1206 = .ok (.iload_n 3, 1) by decide +kernel) (show decode code 1207 = .ok (.iconst 2, 1) by decide +kernel) (show decode code 1208 = .ok (.iadd, 1) by decide +kernel) (show decode code 1209 = .ok (.iaload, 1) by decide +kernel) ?_
  refine l_callML (pc := 1210) (as := [.inl (xs (i + 1)).toInt, .inl (xs (i + 2)).toInt]) (rest := [.long (Int64.ofInt r)]) F S hl.1 hcs lwL_X8_get rfl (Nat.le_of_ble_eq_true rfl) (Nat.le_of_ble_eq_true rfl) (show decode code 1210 = .ok (.invokevirtual 172, 3) by decide +kernel) hm0 (fun H locs k1 hPM S => ?_)
  exact l_cmpL (pc := 1213) hx hb hr0 (show decode code 1213 = .ok (.lcmp, 1) by decide +kernel) (show decode code 1214 = .ok (.ifCond .eq 54, 3) by decide +kernel) (by decide) (kk H locs h1 k1 (hrel _ _ hPC hPM) S)
theorem lc_37 (F : lwF p s m meth c b L xs D tc aC aM) (S : lwS s D tc aC aM H locs h k) (hl : lwLs lsA b (aC 0) (aM 0) i) (hi : i + 5 ≤ L) (hcs : cells ≤ room_1.cells ∧ slots ≤ room_1.slots) (hR : Rel h k) (kk : lwKK p l e s m below meth c b D tc aC aM cells slots Q lsA) : W p l e room_1 s m #[Value.ref b] below meth c H locs cells slots Q (F0 m 1219 lsA []) := by
  obtain ⟨hx, hb, hml, hlk, hret, hown, hts, -⟩ := id F
  obtain ⟨r, PC, PM, hr0, hc0, hm0, hrel⟩ := AI_of (fun h k hR => Q_count ((xs (i + 1)).toInt) (lw_inI _) hR) h k hR
  refine lv_aload_n hx hb (show decode code 1219 = .ok (.aload_n 1, 1) by decide +kernel) rfl (lv_at hl 1 rfl) ?_
  refine l_arg (pc := 1220) (n := 1) F S hl hi (by decide) (show decode code 1220 = .ok (.aload_n 0, 1) by decide +kernel) (show decode code 1221 = .ok (.iload_n 3, 1) by decide +kernel) (show decode code 1222 = .ok (.iconst 1, 1) by decide +kernel) (show decode code 1223 = .ok (.iadd, 1) by decide +kernel) (show decode code 1224 = .ok (.iaload, 1) by decide +kernel) ?_
  refine l_callC (pc := 1225) (as := [.inl (xs (i + 1)).toInt]) (rest := []) F S hl.1 hcs lwL_X7_count rfl (Nat.le_of_ble_eq_true rfl) (Nat.le_of_ble_eq_true rfl) (show decode code 1225 = .ok (.invokevirtual 173, 3) by decide +kernel) hc0 (fun H locs h1 hPC S => ?_)
  refine lv_aload_n hx hb (show decode code 1228 = .ok (.aload_n 2, 1) by decide +kernel) rfl (lv_at hl 2 rfl) ?_
  refine l_arg (pc := 1229) (n := 1) F S hl hi (by decide) (show decode code 1229 = .ok (.aload_n 0, 1) by decide +kernel) (show decode code 1230 = .ok (.iload_n 3, 1) by decide +kernel) (show decode code 1231 = .ok (.iconst 1, 1) by decide +kernel) (show decode code 1232 = .ok (.iadd, 1) by decide +kernel) (show decode code 1233 = .ok (.iaload, 1) by decide +kernel) ?_
  refine l_callM (pc := 1234) (as := [.inl (xs (i + 1)).toInt]) (rest := [.int (Int32.ofInt r)]) F S hl.1 hcs lwL_X8_count rfl (Nat.le_of_ble_eq_true rfl) (Nat.le_of_ble_eq_true rfl) (show decode code 1234 = .ok (.invokevirtual 176, 3) by decide +kernel) hm0 (fun H locs k1 hPM S => ?_)
  exact l_cmpI (pc := 1237) hx hb (show decode code 1237 = .ok (.if_icmp .eq 31, 3) by decide +kernel) (by decide) (kk H locs h1 k1 (hrel _ _ hPC hPM) S)
theorem lc_38 (F : lwF p s m meth c b L xs D tc aC aM) (S : lwS s D tc aC aM H locs h k) (hl : lwLs lsA b (aC 0) (aM 0) i) (hi : i + 5 ≤ L) (hcs : cells ≤ room_1.cells ∧ slots ≤ room_1.slots) (hR : Rel h k) (kk : lwKK p l e s m below meth c b D tc aC aM cells slots Q lsA) : W p l e room_1 s m #[Value.ref b] below meth c H locs cells slots Q (F0 m 1242 lsA []) := by
  obtain ⟨hx, hb, hml, hlk, hret, hown, hts, -⟩ := id F
  obtain ⟨r, PC, PM, hr0, hc0, hm0, hrel⟩ := A_image   h k hR
  refine lv_aload_n hx hb (show decode code 1242 = .ok (.aload_n 1, 1) by decide +kernel) rfl (lv_at hl 1 rfl) ?_
  refine l_callC (pc := 1243) (as := []) (rest := []) F S hl.1 hcs lwL_X7_image rfl (Nat.le_of_ble_eq_true rfl) (Nat.le_of_ble_eq_true rfl) (show decode code 1243 = .ok (.invokevirtual 177, 3) by decide +kernel) hc0 (fun H locs h1 hPC S => ?_)
  refine lv_aload_n hx hb (show decode code 1246 = .ok (.aload_n 2, 1) by decide +kernel) rfl (lv_at hl 2 rfl) ?_
  refine l_callM (pc := 1247) (as := []) (rest := [.int (Int32.ofInt r)]) F S hl.1 hcs lwL_X8_image rfl (Nat.le_of_ble_eq_true rfl) (Nat.le_of_ble_eq_true rfl) (show decode code 1247 = .ok (.invokevirtual 180, 3) by decide +kernel) hm0 (fun H locs k1 hPM S => ?_)
  exact l_cmpI (pc := 1250) hx hb (show decode code 1250 = .ok (.if_icmp .eq 18, 3) by decide +kernel) (by decide) (kk H locs h1 k1 (hrel _ _ hPC hPM) S)
theorem lc_39 (F : lwF p s m meth c b L xs D tc aC aM) (S : lwS s D tc aC aM H locs h k) (hl : lwLs lsA b (aC 0) (aM 0) i) (hi : i + 5 ≤ L) (hcs : cells ≤ room_1.cells ∧ slots ≤ room_1.slots) (hR : Rel h k) (kk : lwKK p l e s m below meth c b D tc aC aM cells slots Q lsA) : W p l e room_1 s m #[Value.ref b] below meth c H locs cells slots Q (F0 m 1255 lsA []) := by
  obtain ⟨hx, hb, hml, hlk, hret, hown, hts, -⟩ := id F
  obtain ⟨r, PC, PM, hr0, hc0, hm0, hrel⟩ := A_restore   h k hR
  refine lv_aload_n hx hb (show decode code 1255 = .ok (.aload_n 1, 1) by decide +kernel) rfl (lv_at hl 1 rfl) ?_
  refine l_callC (pc := 1256) (as := []) (rest := []) F S hl.1 hcs lwL_X7_restore rfl (Nat.le_of_ble_eq_true rfl) (Nat.le_of_ble_eq_true rfl) (show decode code 1256 = .ok (.invokevirtual 181, 3) by decide +kernel) hc0 (fun H locs h1 hPC S => ?_)
  refine lv_aload_n hx hb (show decode code 1259 = .ok (.aload_n 2, 1) by decide +kernel) rfl (lv_at hl 2 rfl) ?_
  refine l_callM (pc := 1260) (as := []) (rest := [.int (Int32.ofInt r)]) F S hl.1 hcs lwL_X8_restore rfl (Nat.le_of_ble_eq_true rfl) (Nat.le_of_ble_eq_true rfl) (show decode code 1260 = .ok (.invokevirtual 184, 3) by decide +kernel) hm0 (fun H locs k1 hPM S => ?_)
  exact l_cmpI (pc := 1263) hx hb (show decode code 1263 = .ok (.if_icmp .eq 5, 3) by decide +kernel) (by decide) (kk H locs h1 k1 (hrel _ _ hPC hPM) S)
end
