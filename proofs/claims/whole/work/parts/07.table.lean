/-! the two worlds, the methods, what the tables say of fields and calls (written by wip/whole/seg.py) -/
theorem tblA_m1 {w : Cond} (h : w ∈ tables_1_1) : w ∈ lw_tbl := List.mem_append_right _ (show w ∈ tables_1 from List.mem_append_left _ h)
set_option maxRecDepth 20000 in
theorem tblG_m1 {w : Cond} (i : Nat) (h : tables_1_1[i]? = some w) (hg : goodWord w = true) : w ∈ tblG := List.mem_filter.mpr ⟨tblA_m1 (List.mem_of_getElem? h), hg⟩
set_option maxRecDepth 20000 in
theorem tblN_m1 {w : Cond} (i : Nat) (h : tables_1_1[i]? = some w) (hg : x_nest w = true) : w ∈ tblN := List.mem_filter.mpr ⟨tblA_m1 (List.mem_of_getElem? h), hg⟩
theorem tblA_m2 {w : Cond} (h : w ∈ tables_1_2) : w ∈ lw_tbl := List.mem_append_right _ (show w ∈ tables_1 from List.mem_append_right _ (List.mem_append_left _ h))
set_option maxRecDepth 20000 in
theorem tblG_m2 {w : Cond} (i : Nat) (h : tables_1_2[i]? = some w) (hg : goodWord w = true) : w ∈ tblG := List.mem_filter.mpr ⟨tblA_m2 (List.mem_of_getElem? h), hg⟩
set_option maxRecDepth 20000 in
theorem tblN_m2 {w : Cond} (i : Nat) (h : tables_1_2[i]? = some w) (hg : x_nest w = true) : w ∈ tblN := List.mem_filter.mpr ⟨tblA_m2 (List.mem_of_getElem? h), hg⟩
theorem tblA_m3 {w : Cond} (h : w ∈ tables_1_3) : w ∈ lw_tbl := List.mem_append_right _ (show w ∈ tables_1 from List.mem_append_right _ (List.mem_append_right _ (List.mem_append_left _ h)))
set_option maxRecDepth 20000 in
theorem tblG_m3 {w : Cond} (i : Nat) (h : tables_1_3[i]? = some w) (hg : goodWord w = true) : w ∈ tblG := List.mem_filter.mpr ⟨tblA_m3 (List.mem_of_getElem? h), hg⟩
set_option maxRecDepth 20000 in
theorem tblN_m3 {w : Cond} (i : Nat) (h : tables_1_3[i]? = some w) (hg : x_nest w = true) : w ∈ tblN := List.mem_filter.mpr ⟨tblA_m3 (List.mem_of_getElem? h), hg⟩
theorem tblA_m4 {w : Cond} (h : w ∈ tables_1_4) : w ∈ lw_tbl := List.mem_append_right _ (show w ∈ tables_1 from List.mem_append_right _ (List.mem_append_right _ (List.mem_append_right _ (List.mem_append_left _ h))))
set_option maxRecDepth 20000 in
theorem tblG_m4 {w : Cond} (i : Nat) (h : tables_1_4[i]? = some w) (hg : goodWord w = true) : w ∈ tblG := List.mem_filter.mpr ⟨tblA_m4 (List.mem_of_getElem? h), hg⟩
set_option maxRecDepth 20000 in
theorem tblN_m4 {w : Cond} (i : Nat) (h : tables_1_4[i]? = some w) (hg : x_nest w = true) : w ∈ tblN := List.mem_filter.mpr ⟨tblA_m4 (List.mem_of_getElem? h), hg⟩
theorem tblA_m5 {w : Cond} (h : w ∈ tables_1_5) : w ∈ lw_tbl := List.mem_append_right _ (show w ∈ tables_1 from List.mem_append_right _ (List.mem_append_right _ (List.mem_append_right _ (List.mem_append_right _ (List.mem_append_left _ h)))))
set_option maxRecDepth 20000 in
theorem tblG_m5 {w : Cond} (i : Nat) (h : tables_1_5[i]? = some w) (hg : goodWord w = true) : w ∈ tblG := List.mem_filter.mpr ⟨tblA_m5 (List.mem_of_getElem? h), hg⟩
set_option maxRecDepth 20000 in
theorem tblN_m5 {w : Cond} (i : Nat) (h : tables_1_5[i]? = some w) (hg : x_nest w = true) : w ∈ tblN := List.mem_filter.mpr ⟨tblA_m5 (List.mem_of_getElem? h), hg⟩
theorem tblA_m6 {w : Cond} (h : w ∈ tables_1_6) : w ∈ lw_tbl := List.mem_append_right _ (show w ∈ tables_1 from List.mem_append_right _ (List.mem_append_right _ (List.mem_append_right _ (List.mem_append_right _ (List.mem_append_right _ (h))))))
set_option maxRecDepth 20000 in
theorem tblG_m6 {w : Cond} (i : Nat) (h : tables_1_6[i]? = some w) (hg : goodWord w = true) : w ∈ tblG := List.mem_filter.mpr ⟨tblA_m6 (List.mem_of_getElem? h), hg⟩
set_option maxRecDepth 20000 in
theorem tblN_m6 {w : Cond} (i : Nat) (h : tables_1_6[i]? = some w) (hg : x_nest w = true) : w ∈ tblN := List.mem_filter.mpr ⟨tblA_m6 (List.mem_of_getElem? h), hg⟩
set_option maxRecDepth 20000 in
theorem tblG_p1 {y : MethodName} (i : Nat) (h : (lw_privs_1[i]?).map (fun q => q.1) = some y) (hg : goodWord (Cond.selects y.cls y y) = true) : Cond.selects y.cls y y ∈ tblG := by
  obtain ⟨q, hq, rfl⟩ := Option.map_eq_some_iff.mp h
  have h := List.mem_of_getElem? hq
  exact List.mem_filter.mpr ⟨List.mem_append_left _ (List.mem_map_of_mem (f := fun q : MethodName × Nat => Cond.selects q.1.cls q.1 q.1) (show q ∈ lw_privs from List.mem_append_left _ h)), hg⟩
set_option maxRecDepth 20000 in
theorem tblG_p2 {y : MethodName} (i : Nat) (h : (lw_privs_2[i]?).map (fun q => q.1) = some y) (hg : goodWord (Cond.selects y.cls y y) = true) : Cond.selects y.cls y y ∈ tblG := by
  obtain ⟨q, hq, rfl⟩ := Option.map_eq_some_iff.mp h
  have h := List.mem_of_getElem? hq
  exact List.mem_filter.mpr ⟨List.mem_append_left _ (List.mem_map_of_mem (f := fun q : MethodName × Nat => Cond.selects q.1.cls q.1 q.1) (show q ∈ lw_privs from List.mem_append_right _ (List.mem_append_left _ h))), hg⟩
set_option maxRecDepth 20000 in
theorem tblG_p3 {y : MethodName} (i : Nat) (h : (lw_privs_3[i]?).map (fun q => q.1) = some y) (hg : goodWord (Cond.selects y.cls y y) = true) : Cond.selects y.cls y y ∈ tblG := by
  obtain ⟨q, hq, rfl⟩ := Option.map_eq_some_iff.mp h
  have h := List.mem_of_getElem? hq
  exact List.mem_filter.mpr ⟨List.mem_append_left _ (List.mem_map_of_mem (f := fun q : MethodName × Nat => Cond.selects q.1.cls q.1 q.1) (show q ∈ lw_privs from List.mem_append_right _ (List.mem_append_right _ (List.mem_append_left _ h)))), hg⟩
set_option maxRecDepth 20000 in
theorem tblG_p4 {y : MethodName} (i : Nat) (h : (lw_privs_4[i]?).map (fun q => q.1) = some y) (hg : goodWord (Cond.selects y.cls y y) = true) : Cond.selects y.cls y y ∈ tblG := by
  obtain ⟨q, hq, rfl⟩ := Option.map_eq_some_iff.mp h
  have h := List.mem_of_getElem? hq
  exact List.mem_filter.mpr ⟨List.mem_append_left _ (List.mem_map_of_mem (f := fun q : MethodName × Nat => Cond.selects q.1.cls q.1 q.1) (show q ∈ lw_privs from List.mem_append_right _ (List.mem_append_right _ (List.mem_append_right _ (List.mem_append_left _ h))))), hg⟩
set_option maxRecDepth 20000 in
theorem tblG_p5 {y : MethodName} (i : Nat) (h : (lw_privs_5[i]?).map (fun q => q.1) = some y) (hg : goodWord (Cond.selects y.cls y y) = true) : Cond.selects y.cls y y ∈ tblG := by
  obtain ⟨q, hq, rfl⟩ := Option.map_eq_some_iff.mp h
  have h := List.mem_of_getElem? hq
  exact List.mem_filter.mpr ⟨List.mem_append_left _ (List.mem_map_of_mem (f := fun q : MethodName × Nat => Cond.selects q.1.cls q.1 q.1) (show q ∈ lw_privs from List.mem_append_right _ (List.mem_append_right _ (List.mem_append_right _ (List.mem_append_right _ (List.mem_append_left _ h)))))), hg⟩
set_option maxRecDepth 20000 in
theorem tblG_p6 {y : MethodName} (i : Nat) (h : (lw_privs_6[i]?).map (fun q => q.1) = some y) (hg : goodWord (Cond.selects y.cls y y) = true) : Cond.selects y.cls y y ∈ tblG := by
  obtain ⟨q, hq, rfl⟩ := Option.map_eq_some_iff.mp h
  have h := List.mem_of_getElem? hq
  exact List.mem_filter.mpr ⟨List.mem_append_left _ (List.mem_map_of_mem (f := fun q : MethodName × Nat => Cond.selects q.1.cls q.1 q.1) (show q ∈ lw_privs from List.mem_append_right _ (List.mem_append_right _ (List.mem_append_right _ (List.mem_append_right _ (List.mem_append_right _ (h))))))), hg⟩
def wdC : List xE := [.inr (7, [.inr 1, .inr 6, .inr 11, .inr 16, .inl .boolean, .inr 21, .inr 26, .inr 32, .inr 39, .inr 44, .inr 50, .inr 53, .inl .int]),
  .inr (3, [.inl .int, .inl .int, .inl .int, .inr 2, .inr 3, .inr 4, .inl .int, .inr 5]),
  .inl (.int, 30),
  .inl (.int, 30),
  .inl (.int, 30),
  .inl (.int, 10),
  .inr (0, [.inr 7, .inr 8, .inl .long, .inl .int, .inr 9, .inr 10, .inl .int]),
  .inl (.int, 24),
  .inl (.int, 24),
  .inl (.int, 30),
  .inl (.int, 30),
  .inr (3, [.inl .int, .inl .int, .inl .int, .inr 12, .inr 13, .inr 14, .inl .int, .inr 15]),
  .inl (.int, 30),
  .inl (.int, 30),
  .inl (.int, 30),
  .inl (.int, 10),
  .inr (0, [.inr 17, .inr 18, .inl .long, .inl .int, .inr 19, .inr 20, .inl .int]),
  .inl (.int, 24),
  .inl (.int, 24),
  .inl (.int, 30),
  .inl (.int, 30),
  .inr (3, [.inl .int, .inl .int, .inl .int, .inr 22, .inr 23, .inr 24, .inl .int, .inr 25]),
  .inl (.int, 30),
  .inl (.int, 30),
  .inl (.int, 30),
  .inl (.int, 10),
  .inr (2, [.inr 27, .inr 28, .inr 29, .inr 30, .inr 31]),
  .inl (.long, 30),
  .inl (.long, 30),
  .inl (.int, 30),
  .inl (.int, 30),
  .inl (.int, 12),
  .inr (6, [.inl .int, .inl .boolean, .inr 33, .inr 34, .inr 35, .inl .int, .inr 36, .inr 54, .inr 37, .inr 38]),
  .inl (.int, 12),
  .inl (.int, 12),
  .inl (.int, 12),
  .inl (.int, 729),
  .inl (.long, 729),
  .inl (.int, 8748),
  .inr (1, [.inl .int, .inl .int, .inl .int, .inl .int, .inr 40, .inr 41, .inr 42, .inr 43]),
  .inl (.int, 10),
  .inl (.int, 10),
  .inl (.int, 10),
  .inl (.int, 1024),
  .inr (5, [.inr 45, .inl .int, .inl .int, .inl .int, .inl .int, .inr 46, .inr 47, .inr 48, .inr 49]),
  .inl (.int, 120),
  .inl (.int, 20),
  .inl (.int, 20),
  .inl (.int, 20),
  .inl (.int, 20),
  .inr (4, [.inr 51, .inr 52]),
  .inl (.int, 4),
  .inl (.long, 120),
  .inl (.int, 12),
  .inl (.int, 4096)]
def wdM : List xE := [.inr (8, [.inr 1, .inr 2, .inr 3, .inl .boolean, .inr 4, .inr 5, .inr 6, .inr 7, .inr 8, .inr 9, .inl .int, .inr 10, .inr 11, .inr 12, .inr 13, .inl .int, .inl .int, .inl .int, .inl .int, .inr 14, .inr 15, .inr 16, .inl .int, .inl .int, .inl .int, .inl .int, .inr 17, .inr 18, .inr 19, .inr 20]),
  .inl (.int, 1705),
  .inl (.int, 1705),
  .inl (.int, 1705),
  .inl (.long, 30),
  .inl (.long, 30),
  .inl (.long, 4096),
  .inl (.int, 30),
  .inl (.int, 12),
  .inl (.int, 49152),
  .inl (.int, 10),
  .inl (.int, 10),
  .inl (.int, 10),
  .inl (.int, 10),
  .inl (.int, 120),
  .inl (.int, 12),
  .inl (.int, 80),
  .inl (.int, 4),
  .inl (.int, 24),
  .inl (.long, 120),
  .inl (.char, 49)]
def mX0_begin : xM := (yX0_begin, prog_2_method_2_code, 3, none)
def mX0_copyFrom : xM := (yX0_copyFrom, prog_2_method_3_code, 2, none)
def mX0_isDone : xM := (yX0_isDone, prog_2_method_4_code, 2, some .boolean)
def mX0_lastWorked : xM := (yX0_lastWorked, prog_2_method_5_code, 1, some .int)
def mX0_workPin : xM := (yX0_workPin, prog_2_method_6_code, 6, none)
def mX0_unwork : xM := (yX0_unwork, prog_2_method_7_code, 6, none)
def mX0_goOver : xM := (yX0_goOver, prog_2_method_8_code, 3, none)
def mX0_goBack : xM := (yX0_goBack, prog_2_method_9_code, 3, none)
def mX0_changePlaces : xM := (yX0_changePlaces, prog_2_method_10_code, 4, none)
def mX1_join : xM := (yX1_join, prog_3_method_2_code, 2, none)
def mX1_sortOut : xM := (yX1_sortOut, prog_3_method_3_code, 3, none)
def mX1_mayJoin : xM := (yX1_mayJoin, prog_3_method_4_code, 4, some .boolean)
def mX1_difference : xM := (yX1_difference, prog_3_method_5_code, 3, some .int)
def mX1_bestFrom : xM := (yX1_bestFrom, prog_3_method_6_code, 3, some .int)
def mX1_worthOf : xM := (yX1_worthOf, prog_3_method_7_code, 4, some .int)
def mX1_weigh : xM := (yX1_weigh, prog_3_method_8_code, 4, none)
def mX1_bestOf : xM := (yX1_bestOf, prog_3_method_9_code, 5, some .int)
def mX1_choose : xM := (yX1_choose, prog_3_method_10_code, 4, none)
def mX1_firstOut : xM := (yX1_firstOut, prog_3_method_11_code, 4, some .int)
def mX2_study : xM := (yX2_study, prog_4_method_2_code, 5, none)
def mX2_sortByRow : xM := (yX2_sortByRow, prog_4_method_3_code, 4, none)
def mX2_take : xM := (yX2_take, prog_4_method_4_code, 3, none)
def mX2_neededBy : xM := (yX2_neededBy, prog_4_method_5_code, 6, some .long)
def mX3_begin : xM := (yX3_begin, prog_5_method_2_code, 2, none)
def mX3_copyFrom : xM := (yX3_copyFrom, prog_5_method_3_code, 2, none)
def mX3_isSlot : xM := (yX3_isSlot, prog_5_method_4_code, 2, some .boolean)
def mX3_isPinSlot : xM := (yX3_isPinSlot, prog_5_method_5_code, 2, some .boolean)
def mX3_isPin : xM := (yX3_isPin, prog_5_method_6_code, 2, some .boolean)
def mX3_addPin : xM := (yX3_addPin, prog_5_method_7_code, 5, some .int)
def mX3_fillAtFirst : xM := (yX3_fillAtFirst, prog_5_method_8_code, 4, some .int)
def mX3_turnNumber : xM := (yX3_turnNumber, prog_5_method_9_code, 2, some .int)
def mX3_slotOfTurn : xM := (yX3_slotOfTurn, prog_5_method_10_code, 1, some .int)
def mX3_rowOfTurn : xM := (yX3_rowOfTurn, prog_5_method_11_code, 1, some .int)
def mX3_turnAt : xM := (yX3_turnAt, prog_5_method_12_code, 5, some .int)
def mX3_placeOfTurn : xM := (yX3_placeOfTurn, prog_5_method_13_code, 3, some .int)
def mX3_removeTurn : xM := (yX3_removeTurn, prog_5_method_14_code, 3, none)
def mX3_sortTurns : xM := (yX3_sortTurns, prog_5_method_15_code, 4, none)
def mX3_isFilled : xM := (yX3_isFilled, prog_5_method_16_code, 5, some .boolean)
def mX3_turnsFull : xM := (yX3_turnsFull, prog_5_method_17_code, 2, some .boolean)
def mX3_turnsInto : xM := (yX3_turnsInto, prog_5_method_18_code, 4, some .int)
def mX3_lacksPair : xM := (yX3_lacksPair, prog_5_method_19_code, 4, some .boolean)
def mX3_uppermost : xM := (yX3_uppermost, prog_5_method_20_code, 5, some .int)
def mX3_isAbove : xM := (yX3_isAbove, prog_5_method_21_code, 3, some .boolean)
def mX3_flippedFill : xM := (yX3_flippedFill, prog_5_method_22_code, 3, some .int)
def mX3_flippedTurn : xM := (yX3_flippedTurn, prog_5_method_23_code, 2, some .int)
def mX3_flip : xM := (yX3_flip, prog_5_method_24_code, 2, none)
def mX3_isEven : xM := (yX3_isEven, prog_5_method_25_code, 2, some .boolean)
def mX3_hasLike : xM := (yX3_hasLike, prog_5_method_26_code, 5, some .boolean)
def mX4_isList : xM := (yX4_isList, prog_6_method_2_code, 2, some .boolean)
def mX4_holds : xM := (yX4_holds, prog_6_method_3_code, 2, some .boolean)
def mX4_hasPlace : xM := (yX4_hasPlace, prog_6_method_4_code, 3, some .boolean)
def mX4_begin : xM := (yX4_begin, prog_6_method_5_code, 4, none)
def mX4_put : xM := (yX4_put, prog_6_method_6_code, 5, none)
def mX4_at : xM := (yX4_at, prog_6_method_7_code, 3, some .long)
def mX5_append : xM := (yX5_append, prog_7_method_2_code, 2, some .boolean)
def mX5_read : xM := (yX5_read, prog_7_method_3_code, 2, none)
def mX5_readPart : xM := (yX5_readPart, prog_7_method_4_code, 2, none)
def mX5_readKind : xM := (yX5_readKind, prog_7_method_5_code, 2, some .int)
def mX5_readStitch : xM := (yX5_readStitch, prog_7_method_6_code, 3, some .int)
def mX5_nameOf : xM := (yX5_nameOf, prog_7_method_7_code, 1, some (.object "java/lang/String"))
def mX5_readNumber : xM := (yX5_readNumber, prog_7_method_8_code, 2, some .int)
def mX5_isFigureHere : xM := (yX5_isFigureHere, prog_7_method_9_code, 1, some .boolean)
def mX5_readFigure : xM := (yX5_readFigure, prog_7_method_10_code, 2, some .int)
def mX5_skipWord : xM := (yX5_skipWord, prog_7_method_11_code, 1, none)
def mX5_isWord : xM := (yX5_isWord, prog_7_method_12_code, 4, some .boolean)
def mX5_expect : xM := (yX5_expect, prog_7_method_13_code, 2, none)
def mX6_gather : xM := (yX6_gather, prog_8_method_2_code, 8, some .boolean)
def mX6_amongLeft : xM := (yX6_amongLeft, prog_8_method_3_code, 5, some .int)
def mX6_comesNext : xM := (yX6_comesNext, prog_8_method_4_code, 3, some .boolean)
def mX6_findSets : xM := (yX6_findSets, prog_8_method_5_code, 3, none)
def mX6_addSet : xM := (yX6_addSet, prog_8_method_6_code, 2, none)
def mX6_lawfulOrders : xM := (yX6_lawfulOrders, prog_8_method_7_code, 5, some .long)
def mX6_waysBy : xM := (yX6_waysBy, prog_8_method_8_code, 3, some .long)
def mX6_pinOfOrder : xM := (yX6_pinOfOrder, prog_8_method_9_code, 10, some .int)
def mX6_leastTravel : xM := (yX6_leastTravel, prog_8_method_10_code, 4, some .int)
def mX6_travelBy : xM := (yX6_travelBy, prog_8_method_11_code, 5, some .int)
def mX6_leastFrom : xM := (yX6_leastFrom, prog_8_method_12_code, 6, some .int)
def mX6_pinOfLeast : xM := (yX6_pinOfLeast, prog_8_method_13_code, 8, some .int)
def mX6_firstBy : xM := (yX6_firstBy, prog_8_method_14_code, 5, some .int)
def mX7_loom : xM := (yX7_loom, prog_1_method_2_code, 3, some .int)
def mX7_pin : xM := (yX7_pin, prog_1_method_3_code, 4, some .int)
def mX7_drop : xM := (yX7_drop, prog_1_method_4_code, 1, some .int)
def mX7_stitch : xM := (yX7_stitch, prog_1_method_5_code, 4, some .int)
def mX7_of : xM := (yX7_of, prog_1_method_6_code, 3, some .int)
def mX7_fill : xM := (yX7_fill, prog_1_method_7_code, 3, some .int)
def mX7_turn : xM := (yX7_turn, prog_1_method_8_code, 3, some .int)
def mX7_filled : xM := (yX7_filled, prog_1_method_9_code, 3, some .int)
def mX7_mirror : xM := (yX7_mirror, prog_1_method_10_code, 1, some .int)
def mX7_even : xM := (yX7_even, prog_1_method_11_code, 1, some .int)
def mX7_needs : xM := (yX7_needs, prog_1_method_12_code, 3, some .long)
def mX7_pins : xM := (yX7_pins, prog_1_method_13_code, 2, some .long)
def mX7_deepest : xM := (yX7_deepest, prog_1_method_14_code, 3, some .int)
def mX7_work : xM := (yX7_work, prog_1_method_15_code, 2, some .int)
def mX7_workAll : xM := (yX7_workAll, prog_1_method_16_code, 4, some .int)
def mX7_undo : xM := (yX7_undo, prog_1_method_17_code, 2, some .int)
def mX7_thread : xM := (yX7_thread, prog_1_method_18_code, 3, some .int)
def mX7_where : xM := (yX7_where, prog_1_method_19_code, 3, some .int)
def mX7_overs : xM := (yX7_overs, prog_1_method_20_code, 2, some .int)
def mX7_acts : xM := (yX7_acts, prog_1_method_21_code, 4, some .int)
def mX7_hand : xM := (yX7_hand, prog_1_method_22_code, 3, some .int)
def mX7_orders : xM := (yX7_orders, prog_1_method_23_code, 1, some .long)
def mX7_order : xM := (yX7_order, prog_1_method_24_code, 4, some .int)
def mX7_travel : xM := (yX7_travel, prog_1_method_25_code, 1, some .int)
def mX7_along : xM := (yX7_along, prog_1_method_26_code, 2, some .int)
def mX7_pairs : xM := (yX7_pairs, prog_1_method_27_code, 2, some .int)
def mX7_hang : xM := (yX7_hang, prog_1_method_28_code, 4, some .int)
def mX7_draft : xM := (yX7_draft, prog_1_method_29_code, 3, some .int)
def mX7_paper : xM := (yX7_paper, prog_1_method_30_code, 2, some .int)
def mX7_lay : xM := (yX7_lay, prog_1_method_31_code, 5, some .int)
def mX7_seen : xM := (yX7_seen, prog_1_method_32_code, 6, some .int)
def mX7_feed : xM := (yX7_feed, prog_1_method_33_code, 2, some .int)
def mX7_clear : xM := (yX7_clear, prog_1_method_34_code, 2, some .int)
def mX7_pricking : xM := (yX7_pricking, prog_1_method_35_code, 2, some .int)
def mX7_list : xM := (yX7_list, prog_1_method_36_code, 3, some .int)
def mX7_set : xM := (yX7_set, prog_1_method_37_code, 5, some .int)
def mX7_get : xM := (yX7_get, prog_1_method_38_code, 3, some .long)
def mX7_count : xM := (yX7_count, prog_1_method_39_code, 2, some .int)
def mX7_image : xM := (yX7_image, prog_1_method_40_code, 1, some .int)
def mX7_restore : xM := (yX7_restore, prog_1_method_41_code, 1, some .int)
def mX7_isRow : xM := (yX7_isRow, prog_1_method_42_code, 1, some .boolean)
def mX7_isStitch : xM := (yX7_isStitch, prog_1_method_43_code, 1, some .boolean)
def mX7_isThread : xM := (yX7_isThread, prog_1_method_44_code, 2, some .boolean)
def mX7_pinBit : xM := (yX7_pinBit, prog_1_method_45_code, 1, some .long)
def mX7_hasPin : xM := (yX7_hasPin, prog_1_method_46_code, 3, some .boolean)
def mX7_anyDone : xM := (yX7_anyDone, prog_1_method_47_code, 1, some .boolean)
def mX7_depthOf : xM := (yX7_depthOf, prog_1_method_48_code, 2, some .int)
def mX7_lackingPins : xM := (yX7_lackingPins, prog_1_method_49_code, 4, some .long)
def mX7_readyPins : xM := (yX7_readyPins, prog_1_method_50_code, 6, some .long)
def mX7_workOne : xM := (yX7_workOne, prog_1_method_51_code, 2, none)
def mX7_think : xM := (yX7_think, prog_1_method_52_code, 1, some .boolean)
def mX7_slotAndRow : xM := (yX7_slotAndRow, prog_1_method_53_code, 1, some .int)
def mX7_drawPin : xM := (yX7_drawPin, prog_1_method_54_code, 2, none)
def mX7_wouldBeSeen : xM := (yX7_wouldBeSeen, prog_1_method_55_code, 8, some .boolean)
def mX7_tellPart : xM := (yX7_tellPart, prog_1_method_56_code, 4, some .int)
def mX7_actCount : xM := (yX7_actCount, prog_1_method_57_code, 1, some .int)
def mX7_isCrossAct : xM := (yX7_isCrossAct, prog_1_method_58_code, 2, some .boolean)
def mX7_actsOf : xM := (yX7_actsOf, prog_1_method_59_code, 4, some .int)
def mX8_isIn : xM := (yX8_isIn, prog_10_method_2_code, 6, some .boolean)
def mX8_starts : xM := (yX8_starts, prog_10_method_3_code, 3, none)
def mX8_isPin : xM := (yX8_isPin, prog_10_method_4_code, 2, some .boolean)
def mX8_isSlot : xM := (yX8_isSlot, prog_10_method_5_code, 2, some .boolean)
def mX8_copies : xM := (yX8_copies, prog_10_method_6_code, 3, none)
def mX8_loom : xM := (yX8_loom, prog_10_method_7_code, 3, some .int)
def mX8_shares : xM := (yX8_shares, prog_10_method_8_code, 3, some .boolean)
def mX8_pin : xM := (yX8_pin, prog_10_method_9_code, 5, some .int)
def mX8_drop : xM := (yX8_drop, prog_10_method_10_code, 1, some .int)
def mX8_becomes : xM := (yX8_becomes, prog_10_method_11_code, 4, some .int)
def mX8_stitch : xM := (yX8_stitch, prog_10_method_12_code, 3, some .int)
def mX8_fill : xM := (yX8_fill, prog_10_method_13_code, 3, some .int)
def mX8_turn : xM := (yX8_turn, prog_10_method_14_code, 6, some .int)
def mX8_isFilled : xM := (yX8_isFilled, prog_10_method_15_code, 5, some .boolean)
def mX8_filled : xM := (yX8_filled, prog_10_method_16_code, 3, some .int)
def mX8_mirror : xM := (yX8_mirror, prog_10_method_17_code, 3, some .int)
def mX8_hasPin : xM := (yX8_hasPin, prog_10_method_18_code, 5, some .boolean)
def mX8_hasTurn : xM := (yX8_hasTurn, prog_10_method_19_code, 3, some .boolean)
def mX8_even : xM := (yX8_even, prog_10_method_20_code, 3, some .int)
def mX8_ahead : xM := (yX8_ahead, prog_10_method_21_code, 5, some .int)
def mX8_finds : xM := (yX8_finds, prog_10_method_22_code, 4, none)
def mX8_findsAll : xM := (yX8_findsAll, prog_10_method_23_code, 3, none)
def mX8_lacks : xM := (yX8_lacks, prog_10_method_24_code, 2, some .boolean)
def mX8_done : xM := (yX8_done, prog_10_method_25_code, 4, some .long)
def mX8_isReady : xM := (yX8_isReady, prog_10_method_26_code, 2, some .boolean)
def mX8_of : xM := (yX8_of, prog_10_method_27_code, 3, some .int)
def mX8_needs : xM := (yX8_needs, prog_10_method_28_code, 6, some .long)
def mX8_pins : xM := (yX8_pins, prog_10_method_29_code, 6, some .long)
def mX8_deepest : xM := (yX8_deepest, prog_10_method_30_code, 3, some .int)
def mX8_goes : xM := (yX8_goes, prog_10_method_31_code, 5, none)
def mX8_crosses : xM := (yX8_crosses, prog_10_method_32_code, 3, none)
def mX8_twists : xM := (yX8_twists, prog_10_method_33_code, 3, none)
def mX8_stitches : xM := (yX8_stitches, prog_10_method_34_code, 4, none)
def mX8_works : xM := (yX8_works, prog_10_method_35_code, 4, none)
def mX8_work : xM := (yX8_work, prog_10_method_36_code, 2, some .int)
def mX8_workAll : xM := (yX8_workAll, prog_10_method_37_code, 4, some .int)
def mX8_undo : xM := (yX8_undo, prog_10_method_38_code, 3, some .int)
def mX8_thread : xM := (yX8_thread, prog_10_method_39_code, 3, some .int)
def mX8_isThread : xM := (yX8_isThread, prog_10_method_40_code, 2, some .boolean)
def mX8_where : xM := (yX8_where, prog_10_method_41_code, 3, some .int)
def mX8_overs : xM := (yX8_overs, prog_10_method_42_code, 2, some .int)
def mX8_acts : xM := (yX8_acts, prog_10_method_43_code, 5, some .int)
def mX8_hand : xM := (yX8_hand, prog_10_method_44_code, 2, some .int)
def mX8_areFew : xM := (yX8_areFew, prog_10_method_45_code, 3, some .boolean)
def mX8_mayCome : xM := (yX8_mayCome, prog_10_method_46_code, 4, some .boolean)
def mX8_oneLacks : xM := (yX8_oneLacks, prog_10_method_47_code, 2, some .boolean)
def mX8_goesBack : xM := (yX8_goesBack, prog_10_method_48_code, 8, none)
def mX8_orders : xM := (yX8_orders, prog_10_method_49_code, 1, some .long)
def mX8_order : xM := (yX8_order, prog_10_method_50_code, 10, some .int)
def mX8_farFrom : xM := (yX8_farFrom, prog_10_method_51_code, 4, some .int)
def mX8_leastFrom : xM := (yX8_leastFrom, prog_10_method_52_code, 5, some .int)
def mX8_travel : xM := (yX8_travel, prog_10_method_53_code, 1, some .int)
def mX8_along : xM := (yX8_along, prog_10_method_54_code, 8, some .int)
def mX8_findsTurns : xM := (yX8_findsTurns, prog_10_method_55_code, 3, none)
def mX8_joins : xM := (yX8_joins, prog_10_method_56_code, 6, none)
def mX8_findsPairs : xM := (yX8_findsPairs, prog_10_method_57_code, 1, none)
def mX8_pairs : xM := (yX8_pairs, prog_10_method_58_code, 4, some .int)
def mX8_hang : xM := (yX8_hang, prog_10_method_59_code, 3, some .int)
def mX8_draft : xM := (yX8_draft, prog_10_method_60_code, 4, some .int)
def mX8_paper : xM := (yX8_paper, prog_10_method_61_code, 2, some .int)
def mX8_isList : xM := (yX8_isList, prog_10_method_62_code, 1, some .boolean)
def mX8_lay : xM := (yX8_lay, prog_10_method_63_code, 5, some .int)
def mX8_seen : xM := (yX8_seen, prog_10_method_64_code, 9, some .int)
def mX8_feed : xM := (yX8_feed, prog_10_method_65_code, 2, some .int)
def mX8_clear : xM := (yX8_clear, prog_10_method_66_code, 2, some .int)
def mX8_here : xM := (yX8_here, prog_10_method_67_code, 1, some .int)
def mX8_fails : xM := (yX8_fails, prog_10_method_68_code, 2, none)
def mX8_blank : xM := (yX8_blank, prog_10_method_69_code, 1, none)
def mX8_figures : xM := (yX8_figures, prog_10_method_70_code, 3, some .int)
def mX8_word : xM := (yX8_word, prog_10_method_71_code, 7, some .int)
def mX8_reads : xM := (yX8_reads, prog_10_method_72_code, 3, none)
def mX8_tells : xM := (yX8_tells, prog_10_method_73_code, 2, some .int)
def mX8_pricking : xM := (yX8_pricking, prog_10_method_74_code, 4, some .int)
def mX8_list : xM := (yX8_list, prog_10_method_75_code, 4, some .int)
def mX8_set : xM := (yX8_set, prog_10_method_76_code, 5, some .int)
def mX8_get : xM := (yX8_get, prog_10_method_77_code, 3, some .long)
def mX8_count : xM := (yX8_count, prog_10_method_78_code, 2, some .int)
def mX8_image : xM := (yX8_image, prog_10_method_79_code, 1, some .int)
def mX8_restore : xM := (yX8_restore, prog_10_method_80_code, 1, some .int)
def mJ_bitCount : xM := (yJ6_bitCount_0f7a4, prog_11_method_49_code, 1, some .int)
def mJ_fill : xM := (yJ7_fill_53178, prog_17_method_103_code, 4, none)
def gI (wd : List xE) (d : Nat) (mi : xM) (pc : Nat) (ls : List (Option xV)) (h : xH) (Q : Int → xH → Prop) : Prop := xG wd d mi pc ls [] h (fun r h1 => ∃ n, r = some (.inl n) ∧ Q n h1)
def gL (wd : List xE) (d : Nat) (mi : xM) (pc : Nat) (ls : List (Option xV)) (h : xH) (Q : Int → xH → Prop) : Prop := xG wd d mi pc ls [] h (fun r h1 => ∃ n, r = some (.inr (.inl n)) ∧ Q n h1)
def gV (wd : List xE) (d : Nat) (mi : xM) (pc : Nat) (ls : List (Option xV)) (h : xH) (Q : xH → Prop) : Prop := xG wd d mi pc ls [] h (fun r h1 => r = none ∧ Q h1)
def gR (wd : List xE) (d : Nat) (mi : xM) (pc : Nat) (ls : List (Option xV)) (h : xH) (Q : Nat → xH → Prop) : Prop := xG wd d mi pc ls [] h (fun r h1 => ∃ n, r = some (.inr (.inr (1000 + n))) ∧ Q n h1)
/-- a call -/
def cI (wd : List xE) (d : Nat) (mi : xM) (as : List xV) (h : xH) (Q : Int → xH → Prop) : Prop := gI wd d mi 0 (xent mi.2.2.1 as) h Q
def cL (wd : List xE) (d : Nat) (mi : xM) (as : List xV) (h : xH) (Q : Int → xH → Prop) : Prop := gL wd d mi 0 (xent mi.2.2.1 as) h Q
def cV (wd : List xE) (d : Nat) (mi : xM) (as : List xV) (h : xH) (Q : xH → Prop) : Prop := gV wd d mi 0 (xent mi.2.2.1 as) h Q
def cR (wd : List xE) (d : Nat) (mi : xM) (as : List xV) (h : xH) (Q : Nat → xH → Prop) : Prop := gR wd d mi 0 (xent mi.2.2.1 as) h Q
def cB (wd : List xE) (d : Nat) (mi : xM) (as : List xV) (h : xH) (T F : xH → Prop) : Prop := cI wd d mi as h (fun r h1 => (r = 1 ∧ T h1) ∨ (r = 0 ∧ F h1))
def xle : List (Option xV) → List (Option xV) → Prop
  | [], _ => True
  | none :: r, _ :: s => xle r s
  | none :: _, [] => False
  | some v :: r, o :: s => o = some v ∧ xle r s
  | some _ :: _, [] => False
theorem xle_get : ∀ {l' l : List (Option xV)}, xle l' l → ∀ (k : Nat) (v : xV), l'[k]? = some (some v) → l[k]? = some (some v)
  | [], _, _, k, v, h => by simp at h
  | none :: r, o :: s, hx, 0, v, h => by simp at h
  | none :: r, o :: s, hx, k + 1, v, h => by simp at h ⊢; exact xle_get (l' := r) hx k v h
  | none :: r, [], hx, k, v, h => hx.elim
  | some w :: r, o :: s, hx, 0, v, h => by simp at h ⊢; subst h; exact hx.1
  | some w :: r, o :: s, hx, k + 1, v, h => by simp at h ⊢; exact xle_get (l' := r) hx.2 k v h
  | some w :: r, [], hx, k, v, h => hx.elim
theorem x_lsw2 {a df o0 o1 : Int} (h0 : ¬ a = 0) (h1 : ¬ a = 1) : Op.lookupswitch.offset [(0, o0), (1, o1)] df a = df := by
  simp [Op.lookupswitch.offset, List.find?, Ne.symm h0, Ne.symm h1, h0, h1]
set_option maxRecDepth 20000 in
theorem ac_native : Cond.native arraycopyName ∈ tblG := tblG_m4 173 rfl rfl
set_option maxRecDepth 20000 in
theorem ac_static : Cond.static arraycopyName ∈ tblG := tblG_m4 172 rfl rfl
set_option maxRecDepth 20000 in
theorem ac_init : Cond.initialized "java/lang/System" ∈ tblG := tblG_m1 17 rfl rfl
set_option maxRecDepth 20000 in
theorem M_in : Cond.initialized "java/lang/Math" ∈ tblG := tblG_m1 10 rfl rfl
set_option maxRecDepth 20000 in
theorem MX_st : Cond.static Lib.Math.max.name ∈ tblG := tblG_m2 147 rfl rfl
set_option maxRecDepth 20000 in
theorem MX_cd : Cond.code Lib.Math.max.name Lib.Math.max.code 2 (some .int) ∈ tblG := tblG_m2 148 rfl rfl
set_option maxRecDepth 20000 in
theorem MN_st : Cond.static Lib.Math.min.name ∈ tblG := tblG_m6 42 rfl rfl
set_option maxRecDepth 20000 in
theorem MN_cd : Cond.code Lib.Math.min.name Lib.Math.min.code 2 (some .int) ∈ tblG := tblG_m6 43 rfl rfl
set_option maxRecDepth 20000 in
theorem MA_st : Cond.static Lib.Math.abs.name ∈ tblG := tblG_m2 98 rfl rfl
set_option maxRecDepth 20000 in
theorem MA_cd : Cond.code Lib.Math.abs.name Lib.Math.abs.code 1 (some .int) ∈ tblG := tblG_m2 99 rfl rfl
set_option maxRecDepth 20000 in
theorem iG0 : ∀ w ∈ u_ws RX0 TX0 7, w ∈ tblG := by
  intro w hw
  obtain ⟨k, hk, rfl⟩ := List.mem_map.mp hw
  have hk := List.mem_range.mp hk
  match k, hk with
  | 0, _ => exact tblG_m1 90 rfl rfl
  | 1, _ => exact tblG_m1 92 rfl rfl
  | 2, _ => exact tblG_m1 94 rfl rfl
  | 3, _ => exact tblG_m1 96 rfl rfl
  | 4, _ => exact tblG_m1 98 rfl rfl
  | 5, _ => exact tblG_m1 100 rfl rfl
  | 6, _ => exact tblG_m1 102 rfl rfl
  | k + 7, hk => omega
theorem fp0_2 : xFldP 0 2 .long := ⟨(RX0, TX0, 7), tyX0, rfl, tyX0_ok, nmX0, rfl, by decide +kernel⟩
theorem fp0_3 : xFldP 0 3 .int := ⟨(RX0, TX0, 7), tyX0, rfl, tyX0_ok, nmX0, rfl, by decide +kernel⟩
theorem fp0_6 : xFldP 0 6 .int := ⟨(RX0, TX0, 7), tyX0, rfl, tyX0_ok, nmX0, rfl, by decide +kernel⟩
set_option maxRecDepth 20000 in
theorem iG1 : ∀ w ∈ u_ws RX1 TX1 8, w ∈ tblG := by
  intro w hw
  obtain ⟨k, hk, rfl⟩ := List.mem_map.mp hw
  have hk := List.mem_range.mp hk
  match k, hk with
  | 0, _ => exact tblG_m1 191 rfl rfl
  | 1, _ => exact tblG_m1 193 rfl rfl
  | 2, _ => exact tblG_m1 195 rfl rfl
  | 3, _ => exact tblG_m1 197 rfl rfl
  | 4, _ => exact tblG_m1 199 rfl rfl
  | 5, _ => exact tblG_m1 201 rfl rfl
  | 6, _ => exact tblG_m1 203 rfl rfl
  | 7, _ => exact tblG_m1 205 rfl rfl
  | k + 8, hk => omega
theorem fp1_0 : xFldP 1 0 .int := ⟨(RX1, TX1, 8), tyX1, rfl, tyX1_ok, nmX1, rfl, by decide +kernel⟩
theorem fp1_1 : xFldP 1 1 .int := ⟨(RX1, TX1, 8), tyX1, rfl, tyX1_ok, nmX1, rfl, by decide +kernel⟩
theorem fp1_2 : xFldP 1 2 .int := ⟨(RX1, TX1, 8), tyX1, rfl, tyX1_ok, nmX1, rfl, by decide +kernel⟩
theorem fp1_3 : xFldP 1 3 .int := ⟨(RX1, TX1, 8), tyX1, rfl, tyX1_ok, nmX1, rfl, by decide +kernel⟩
set_option maxRecDepth 20000 in
theorem iG2 : ∀ w ∈ u_ws RX2 TX2 5, w ∈ tblG := by
  intro w hw
  obtain ⟨k, hk, rfl⟩ := List.mem_map.mp hw
  have hk := List.mem_range.mp hk
  match k, hk with
  | 0, _ => exact tblG_m1 120 rfl rfl
  | 1, _ => exact tblG_m1 122 rfl rfl
  | 2, _ => exact tblG_m1 124 rfl rfl
  | 3, _ => exact tblG_m1 126 rfl rfl
  | 4, _ => exact tblG_m1 128 rfl rfl
  | k + 5, hk => omega
set_option maxRecDepth 20000 in
theorem iG3 : ∀ w ∈ u_ws RX3 TX3 8, w ∈ tblG := by
  intro w hw
  obtain ⟨k, hk, rfl⟩ := List.mem_map.mp hw
  have hk := List.mem_range.mp hk
  match k, hk with
  | 0, _ => exact tblG_m1 54 rfl rfl
  | 1, _ => exact tblG_m1 56 rfl rfl
  | 2, _ => exact tblG_m1 58 rfl rfl
  | 3, _ => exact tblG_m1 60 rfl rfl
  | 4, _ => exact tblG_m1 62 rfl rfl
  | 5, _ => exact tblG_m1 64 rfl rfl
  | 6, _ => exact tblG_m1 66 rfl rfl
  | 7, _ => exact tblG_m1 68 rfl rfl
  | k + 8, hk => omega
theorem fp3_0 : xFldP 3 0 .int := ⟨(RX3, TX3, 8), tyX3, rfl, tyX3_ok, nmX3, rfl, by decide +kernel⟩
theorem fp3_1 : xFldP 3 1 .int := ⟨(RX3, TX3, 8), tyX3, rfl, tyX3_ok, nmX3, rfl, by decide +kernel⟩
theorem fp3_2 : xFldP 3 2 .int := ⟨(RX3, TX3, 8), tyX3, rfl, tyX3_ok, nmX3, rfl, by decide +kernel⟩
theorem fp3_6 : xFldP 3 6 .int := ⟨(RX3, TX3, 8), tyX3, rfl, tyX3_ok, nmX3, rfl, by decide +kernel⟩
set_option maxRecDepth 20000 in
theorem iG4 : ∀ w ∈ u_ws RX4 TX4 2, w ∈ tblG := by
  intro w hw
  obtain ⟨k, hk, rfl⟩ := List.mem_map.mp hw
  have hk := List.mem_range.mp hk
  match k, hk with
  | 0, _ => exact tblG_m2 18 rfl rfl
  | 1, _ => exact tblG_m2 20 rfl rfl
  | k + 2, hk => omega
set_option maxRecDepth 20000 in
theorem iG5 : ∀ w ∈ u_ws RX5 TX5 9, w ∈ tblG := by
  intro w hw
  obtain ⟨k, hk, rfl⟩ := List.mem_map.mp hw
  have hk := List.mem_range.mp hk
  match k, hk with
  | 0, _ => exact tblG_m1 230 rfl rfl
  | 1, _ => exact tblG_m1 232 rfl rfl
  | 2, _ => exact tblG_m1 234 rfl rfl
  | 3, _ => exact tblG_m1 236 rfl rfl
  | 4, _ => exact tblG_m1 238 rfl rfl
  | 5, _ => exact tblG_m2 0 rfl rfl
  | 6, _ => exact tblG_m2 2 rfl rfl
  | 7, _ => exact tblG_m2 4 rfl rfl
  | 8, _ => exact tblG_m2 6 rfl rfl
  | k + 9, hk => omega
theorem fp5_1 : xFldP 5 1 .int := ⟨(RX5, TX5, 9), tyX5, rfl, tyX5_ok, nmX5, rfl, by decide +kernel⟩
theorem fp5_2 : xFldP 5 2 .int := ⟨(RX5, TX5, 9), tyX5, rfl, tyX5_ok, nmX5, rfl, by decide +kernel⟩
theorem fp5_3 : xFldP 5 3 .int := ⟨(RX5, TX5, 9), tyX5, rfl, tyX5_ok, nmX5, rfl, by decide +kernel⟩
theorem fp5_4 : xFldP 5 4 .int := ⟨(RX5, TX5, 9), tyX5, rfl, tyX5_ok, nmX5, rfl, by decide +kernel⟩
set_option maxRecDepth 20000 in
theorem iG6 : ∀ w ∈ u_ws RX6 TX6 10, w ∈ tblG := by
  intro w hw
  obtain ⟨k, hk, rfl⟩ := List.mem_map.mp hw
  have hk := List.mem_range.mp hk
  match k, hk with
  | 0, _ => exact tblG_m1 150 rfl rfl
  | 1, _ => exact tblG_m1 152 rfl rfl
  | 2, _ => exact tblG_m1 154 rfl rfl
  | 3, _ => exact tblG_m1 156 rfl rfl
  | 4, _ => exact tblG_m1 158 rfl rfl
  | 5, _ => exact tblG_m1 160 rfl rfl
  | 6, _ => exact tblG_m1 162 rfl rfl
  | 7, _ => exact tblG_m1 164 rfl rfl
  | 8, _ => exact tblG_m1 166 rfl rfl
  | 9, _ => exact tblG_m1 168 rfl rfl
  | k + 10, hk => omega
theorem fp6_0 : xFldP 6 0 .int := ⟨(RX6, TX6, 10), tyX6, rfl, tyX6_ok, nmX6, rfl, by decide +kernel⟩
theorem fp6_1 : xFldP 6 1 .boolean := ⟨(RX6, TX6, 10), tyX6, rfl, tyX6_ok, nmX6, rfl, by decide +kernel⟩
theorem fp6_5 : xFldP 6 5 .int := ⟨(RX6, TX6, 10), tyX6, rfl, tyX6_ok, nmX6, rfl, by decide +kernel⟩
set_option maxRecDepth 20000 in
theorem iG7 : ∀ w ∈ u_ws RX7 TX7 13, w ∈ tblG := by
  intro w hw
  obtain ⟨k, hk, rfl⟩ := List.mem_map.mp hw
  have hk := List.mem_range.mp hk
  match k, hk with
  | 0, _ => exact tblG_m2 44 rfl rfl
  | 1, _ => exact tblG_m2 46 rfl rfl
  | 2, _ => exact tblG_m2 48 rfl rfl
  | 3, _ => exact tblG_m2 50 rfl rfl
  | 4, _ => exact tblG_m2 52 rfl rfl
  | 5, _ => exact tblG_m2 54 rfl rfl
  | 6, _ => exact tblG_m2 56 rfl rfl
  | 7, _ => exact tblG_m2 58 rfl rfl
  | 8, _ => exact tblG_m2 60 rfl rfl
  | 9, _ => exact tblG_m2 62 rfl rfl
  | 10, _ => exact tblG_m2 64 rfl rfl
  | 11, _ => exact tblG_m2 66 rfl rfl
  | 12, _ => exact tblG_m2 68 rfl rfl
  | k + 13, hk => omega
theorem fp7_4 : xFldP 7 4 .boolean := ⟨(RX7, TX7, 13), tyX7, rfl, tyX7_ok, nmX7, rfl, by decide +kernel⟩
theorem fp7_12 : xFldP 7 12 .int := ⟨(RX7, TX7, 13), tyX7, rfl, tyX7_ok, nmX7, rfl, by decide +kernel⟩
set_option maxRecDepth 20000 in
theorem iG8 : ∀ w ∈ u_ws RX8 TX8 30, w ∈ tblG := by
  intro w hw
  obtain ⟨k, hk, rfl⟩ := List.mem_map.mp hw
  have hk := List.mem_range.mp hk
  match k, hk with
  | 0, _ => exact tblG_m5 26 rfl rfl
  | 1, _ => exact tblG_m5 28 rfl rfl
  | 2, _ => exact tblG_m5 30 rfl rfl
  | 3, _ => exact tblG_m5 32 rfl rfl
  | 4, _ => exact tblG_m5 34 rfl rfl
  | 5, _ => exact tblG_m5 36 rfl rfl
  | 6, _ => exact tblG_m5 38 rfl rfl
  | 7, _ => exact tblG_m5 40 rfl rfl
  | 8, _ => exact tblG_m5 42 rfl rfl
  | 9, _ => exact tblG_m5 44 rfl rfl
  | 10, _ => exact tblG_m5 46 rfl rfl
  | 11, _ => exact tblG_m5 48 rfl rfl
  | 12, _ => exact tblG_m5 50 rfl rfl
  | 13, _ => exact tblG_m5 52 rfl rfl
  | 14, _ => exact tblG_m5 54 rfl rfl
  | 15, _ => exact tblG_m5 56 rfl rfl
  | 16, _ => exact tblG_m5 58 rfl rfl
  | 17, _ => exact tblG_m5 60 rfl rfl
  | 18, _ => exact tblG_m5 62 rfl rfl
  | 19, _ => exact tblG_m5 64 rfl rfl
  | 20, _ => exact tblG_m5 66 rfl rfl
  | 21, _ => exact tblG_m5 68 rfl rfl
  | 22, _ => exact tblG_m5 70 rfl rfl
  | 23, _ => exact tblG_m5 72 rfl rfl
  | 24, _ => exact tblG_m5 74 rfl rfl
  | 25, _ => exact tblG_m5 76 rfl rfl
  | 26, _ => exact tblG_m5 78 rfl rfl
  | 27, _ => exact tblG_m5 80 rfl rfl
  | 28, _ => exact tblG_m5 82 rfl rfl
  | 29, _ => exact tblG_m5 84 rfl rfl
  | k + 30, hk => omega
theorem fp8_3 : xFldP 8 3 .boolean := ⟨(RX8, TX8, 30), tyX8, rfl, tyX8_ok, nmX8, rfl, by decide +kernel⟩
theorem fp8_10 : xFldP 8 10 .int := ⟨(RX8, TX8, 30), tyX8, rfl, tyX8_ok, nmX8, rfl, by decide +kernel⟩
theorem fp8_15 : xFldP 8 15 .int := ⟨(RX8, TX8, 30), tyX8, rfl, tyX8_ok, nmX8, rfl, by decide +kernel⟩
theorem fp8_16 : xFldP 8 16 .int := ⟨(RX8, TX8, 30), tyX8, rfl, tyX8_ok, nmX8, rfl, by decide +kernel⟩
theorem fp8_17 : xFldP 8 17 .int := ⟨(RX8, TX8, 30), tyX8, rfl, tyX8_ok, nmX8, rfl, by decide +kernel⟩
theorem fp8_18 : xFldP 8 18 .int := ⟨(RX8, TX8, 30), tyX8, rfl, tyX8_ok, nmX8, rfl, by decide +kernel⟩
theorem fp8_22 : xFldP 8 22 .int := ⟨(RX8, TX8, 30), tyX8, rfl, tyX8_ok, nmX8, rfl, by decide +kernel⟩
theorem fp8_23 : xFldP 8 23 .int := ⟨(RX8, TX8, 30), tyX8, rfl, tyX8_ok, nmX8, rfl, by decide +kernel⟩
theorem fp8_24 : xFldP 8 24 .int := ⟨(RX8, TX8, 30), tyX8, rfl, tyX8_ok, nmX8, rfl, by decide +kernel⟩
theorem fp8_25 : xFldP 8 25 .int := ⟨(RX8, TX8, 30), tyX8, rfl, tyX8_ok, nmX8, rfl, by decide +kernel⟩
set_option maxRecDepth 20000 in
theorem f3_9 : xFld "LacePins$Pattern" 9 3 0 := ⟨(RX3, TX3, 8), rfl, by decide, iG3, Or.inl (tblG_m1 32 rfl rfl)⟩
set_option maxRecDepth 20000 in
theorem f7_86 : xFld "LacePins" 86 3 0 := ⟨(RX3, TX3, 8), rfl, by decide, iG3, Or.inr ⟨_, tblN_m1 33 rfl rfl⟩⟩
set_option maxRecDepth 20000 in
theorem f3_15 : xFld "LacePins$Pattern" 15 3 1 := ⟨(RX3, TX3, 8), rfl, by decide, iG3, Or.inl (tblG_m1 34 rfl rfl)⟩
set_option maxRecDepth 20000 in
theorem f7_253 : xFld "LacePins" 253 3 1 := ⟨(RX3, TX3, 8), rfl, by decide, iG3, Or.inr ⟨_, tblN_m1 35 rfl rfl⟩⟩
set_option maxRecDepth 20000 in
theorem f3_18 : xFld "LacePins$Pattern" 18 3 2 := ⟨(RX3, TX3, 8), rfl, by decide, iG3, Or.inl (tblG_m1 36 rfl rfl)⟩
set_option maxRecDepth 20000 in
theorem f6_45 : xFld "LacePins$Thought" 45 3 2 := ⟨(RX3, TX3, 8), rfl, by decide, iG3, Or.inr ⟨_, tblN_m1 37 rfl rfl⟩⟩
set_option maxRecDepth 20000 in
theorem f2_38 : xFld "LacePins$Needs" 38 3 2 := ⟨(RX3, TX3, 8), rfl, by decide, iG3, Or.inr ⟨_, tblN_m1 38 rfl rfl⟩⟩
set_option maxRecDepth 20000 in
theorem f7_107 : xFld "LacePins" 107 3 2 := ⟨(RX3, TX3, 8), rfl, by decide, iG3, Or.inr ⟨_, tblN_m1 39 rfl rfl⟩⟩
set_option maxRecDepth 20000 in
theorem f3_21 : xFld "LacePins$Pattern" 21 3 3 := ⟨(RX3, TX3, 8), rfl, by decide, iG3, Or.inl (tblG_m1 40 rfl rfl)⟩
set_option maxRecDepth 20000 in
theorem f2_51 : xFld "LacePins$Needs" 51 3 3 := ⟨(RX3, TX3, 8), rfl, by decide, iG3, Or.inr ⟨_, tblN_m1 41 rfl rfl⟩⟩
set_option maxRecDepth 20000 in
theorem f7_116 : xFld "LacePins" 116 3 3 := ⟨(RX3, TX3, 8), rfl, by decide, iG3, Or.inr ⟨_, tblN_m1 42 rfl rfl⟩⟩
set_option maxRecDepth 20000 in
theorem f3_25 : xFld "LacePins$Pattern" 25 3 4 := ⟨(RX3, TX3, 8), rfl, by decide, iG3, Or.inl (tblG_m1 43 rfl rfl)⟩
set_option maxRecDepth 20000 in
theorem f2_44 : xFld "LacePins$Needs" 44 3 4 := ⟨(RX3, TX3, 8), rfl, by decide, iG3, Or.inr ⟨_, tblN_m1 44 rfl rfl⟩⟩
set_option maxRecDepth 20000 in
theorem f6_54 : xFld "LacePins$Thought" 54 3 4 := ⟨(RX3, TX3, 8), rfl, by decide, iG3, Or.inr ⟨_, tblN_m1 45 rfl rfl⟩⟩
set_option maxRecDepth 20000 in
theorem f7_119 : xFld "LacePins" 119 3 4 := ⟨(RX3, TX3, 8), rfl, by decide, iG3, Or.inr ⟨_, tblN_m1 46 rfl rfl⟩⟩
set_option maxRecDepth 20000 in
theorem f3_28 : xFld "LacePins$Pattern" 28 3 5 := ⟨(RX3, TX3, 8), rfl, by decide, iG3, Or.inl (tblG_m1 47 rfl rfl)⟩
set_option maxRecDepth 20000 in
theorem f7_113 : xFld "LacePins" 113 3 5 := ⟨(RX3, TX3, 8), rfl, by decide, iG3, Or.inr ⟨_, tblN_m1 48 rfl rfl⟩⟩
set_option maxRecDepth 20000 in
theorem f3_31 : xFld "LacePins$Pattern" 31 3 6 := ⟨(RX3, TX3, 8), rfl, by decide, iG3, Or.inl (tblG_m1 49 rfl rfl)⟩
set_option maxRecDepth 20000 in
theorem f1_47 : xFld "LacePins$Joins" 47 3 6 := ⟨(RX3, TX3, 8), rfl, by decide, iG3, Or.inr ⟨_, tblN_m1 50 rfl rfl⟩⟩
set_option maxRecDepth 20000 in
theorem f7_332 : xFld "LacePins" 332 3 6 := ⟨(RX3, TX3, 8), rfl, by decide, iG3, Or.inr ⟨_, tblN_m1 51 rfl rfl⟩⟩
set_option maxRecDepth 20000 in
theorem f3_34 : xFld "LacePins$Pattern" 34 3 7 := ⟨(RX3, TX3, 8), rfl, by decide, iG3, Or.inl (tblG_m1 52 rfl rfl)⟩
set_option maxRecDepth 20000 in
theorem f1_56 : xFld "LacePins$Joins" 56 3 7 := ⟨(RX3, TX3, 8), rfl, by decide, iG3, Or.inr ⟨_, tblN_m1 53 rfl rfl⟩⟩
set_option maxRecDepth 20000 in
theorem f0_9 : xFld "LacePins$Bench" 9 0 0 := ⟨(RX0, TX0, 7), rfl, by decide, iG0, Or.inl (tblG_m1 78 rfl rfl)⟩
set_option maxRecDepth 20000 in
theorem f7_211 : xFld "LacePins" 211 0 0 := ⟨(RX0, TX0, 7), rfl, by decide, iG0, Or.inr ⟨_, tblN_m1 79 rfl rfl⟩⟩
set_option maxRecDepth 20000 in
theorem f0_15 : xFld "LacePins$Bench" 15 0 1 := ⟨(RX0, TX0, 7), rfl, by decide, iG0, Or.inl (tblG_m1 80 rfl rfl)⟩
set_option maxRecDepth 20000 in
theorem f7_217 : xFld "LacePins" 217 0 1 := ⟨(RX0, TX0, 7), rfl, by decide, iG0, Or.inr ⟨_, tblN_m1 81 rfl rfl⟩⟩
set_option maxRecDepth 20000 in
theorem f0_18 : xFld "LacePins$Bench" 18 0 2 := ⟨(RX0, TX0, 7), rfl, by decide, iG0, Or.inl (tblG_m1 82 rfl rfl)⟩
set_option maxRecDepth 20000 in
theorem f7_177 : xFld "LacePins" 177 0 2 := ⟨(RX0, TX0, 7), rfl, by decide, iG0, Or.inr ⟨_, tblN_m1 83 rfl rfl⟩⟩
set_option maxRecDepth 20000 in
theorem f0_22 : xFld "LacePins$Bench" 22 0 3 := ⟨(RX0, TX0, 7), rfl, by decide, iG0, Or.inl (tblG_m1 84 rfl rfl)⟩
set_option maxRecDepth 20000 in
theorem f7_196 : xFld "LacePins" 196 0 3 := ⟨(RX0, TX0, 7), rfl, by decide, iG0, Or.inr ⟨_, tblN_m1 85 rfl rfl⟩⟩
set_option maxRecDepth 20000 in
theorem f0_26 : xFld "LacePins$Bench" 26 0 4 := ⟨(RX0, TX0, 7), rfl, by decide, iG0, Or.inl (tblG_m1 86 rfl rfl)⟩
set_option maxRecDepth 20000 in
theorem f0_29 : xFld "LacePins$Bench" 29 0 5 := ⟨(RX0, TX0, 7), rfl, by decide, iG0, Or.inl (tblG_m1 87 rfl rfl)⟩
set_option maxRecDepth 20000 in
theorem f0_32 : xFld "LacePins$Bench" 32 0 6 := ⟨(RX0, TX0, 7), rfl, by decide, iG0, Or.inl (tblG_m1 88 rfl rfl)⟩
set_option maxRecDepth 20000 in
theorem f7_223 : xFld "LacePins" 223 0 6 := ⟨(RX0, TX0, 7), rfl, by decide, iG0, Or.inr ⟨_, tblN_m1 89 rfl rfl⟩⟩
set_option maxRecDepth 20000 in
theorem f2_9 : xFld "LacePins$Needs" 9 2 0 := ⟨(RX2, TX2, 5), rfl, by decide, iG2, Or.inl (tblG_m1 111 rfl rfl)⟩
set_option maxRecDepth 20000 in
theorem f7_159 : xFld "LacePins" 159 2 0 := ⟨(RX2, TX2, 5), rfl, by decide, iG2, Or.inr ⟨_, tblN_m1 112 rfl rfl⟩⟩
set_option maxRecDepth 20000 in
theorem f2_15 : xFld "LacePins$Needs" 15 2 1 := ⟨(RX2, TX2, 5), rfl, by decide, iG2, Or.inl (tblG_m1 113 rfl rfl)⟩
set_option maxRecDepth 20000 in
theorem f6_57 : xFld "LacePins$Thought" 57 2 1 := ⟨(RX2, TX2, 5), rfl, by decide, iG2, Or.inr ⟨_, tblN_m1 114 rfl rfl⟩⟩
set_option maxRecDepth 20000 in
theorem f7_163 : xFld "LacePins" 163 2 1 := ⟨(RX2, TX2, 5), rfl, by decide, iG2, Or.inr ⟨_, tblN_m1 115 rfl rfl⟩⟩
set_option maxRecDepth 20000 in
theorem f2_18 : xFld "LacePins$Needs" 18 2 2 := ⟨(RX2, TX2, 5), rfl, by decide, iG2, Or.inl (tblG_m1 116 rfl rfl)⟩
set_option maxRecDepth 20000 in
theorem f7_181 : xFld "LacePins" 181 2 2 := ⟨(RX2, TX2, 5), rfl, by decide, iG2, Or.inr ⟨_, tblN_m1 117 rfl rfl⟩⟩
set_option maxRecDepth 20000 in
theorem f2_22 : xFld "LacePins$Needs" 22 2 3 := ⟨(RX2, TX2, 5), rfl, by decide, iG2, Or.inl (tblG_m1 118 rfl rfl)⟩
set_option maxRecDepth 20000 in
theorem f2_25 : xFld "LacePins$Needs" 25 2 4 := ⟨(RX2, TX2, 5), rfl, by decide, iG2, Or.inl (tblG_m1 119 rfl rfl)⟩
set_option maxRecDepth 20000 in
theorem f6_9 : xFld "LacePins$Thought" 9 6 0 := ⟨(RX6, TX6, 10), rfl, by decide, iG6, Or.inl (tblG_m1 138 rfl rfl)⟩
set_option maxRecDepth 20000 in
theorem f7_234 : xFld "LacePins" 234 6 0 := ⟨(RX6, TX6, 10), rfl, by decide, iG6, Or.inr ⟨_, tblN_m1 139 rfl rfl⟩⟩
set_option maxRecDepth 20000 in
theorem f6_15 : xFld "LacePins$Thought" 15 6 1 := ⟨(RX6, TX6, 10), rfl, by decide, iG6, Or.inl (tblG_m1 140 rfl rfl)⟩
set_option maxRecDepth 20000 in
theorem f7_241 : xFld "LacePins" 241 6 1 := ⟨(RX6, TX6, 10), rfl, by decide, iG6, Or.inr ⟨_, tblN_m1 141 rfl rfl⟩⟩
set_option maxRecDepth 20000 in
theorem f6_19 : xFld "LacePins$Thought" 19 6 2 := ⟨(RX6, TX6, 10), rfl, by decide, iG6, Or.inl (tblG_m1 142 rfl rfl)⟩
set_option maxRecDepth 20000 in
theorem f6_23 : xFld "LacePins$Thought" 23 6 3 := ⟨(RX6, TX6, 10), rfl, by decide, iG6, Or.inl (tblG_m1 143 rfl rfl)⟩
set_option maxRecDepth 20000 in
theorem f6_26 : xFld "LacePins$Thought" 26 6 4 := ⟨(RX6, TX6, 10), rfl, by decide, iG6, Or.inl (tblG_m1 144 rfl rfl)⟩
set_option maxRecDepth 20000 in
theorem f6_29 : xFld "LacePins$Thought" 29 6 5 := ⟨(RX6, TX6, 10), rfl, by decide, iG6, Or.inl (tblG_m1 145 rfl rfl)⟩
set_option maxRecDepth 20000 in
theorem f6_32 : xFld "LacePins$Thought" 32 6 6 := ⟨(RX6, TX6, 10), rfl, by decide, iG6, Or.inl (tblG_m1 146 rfl rfl)⟩
set_option maxRecDepth 20000 in
theorem f6_35 : xFld "LacePins$Thought" 35 6 7 := ⟨(RX6, TX6, 10), rfl, by decide, iG6, Or.inl (tblG_m1 147 rfl rfl)⟩
set_option maxRecDepth 20000 in
theorem f6_38 : xFld "LacePins$Thought" 38 6 8 := ⟨(RX6, TX6, 10), rfl, by decide, iG6, Or.inl (tblG_m1 148 rfl rfl)⟩
set_option maxRecDepth 20000 in
theorem f6_42 : xFld "LacePins$Thought" 42 6 9 := ⟨(RX6, TX6, 10), rfl, by decide, iG6, Or.inl (tblG_m1 149 rfl rfl)⟩
set_option maxRecDepth 20000 in
theorem f1_9 : xFld "LacePins$Joins" 9 1 0 := ⟨(RX1, TX1, 8), rfl, by decide, iG1, Or.inl (tblG_m1 177 rfl rfl)⟩
set_option maxRecDepth 20000 in
theorem f7_261 : xFld "LacePins" 261 1 0 := ⟨(RX1, TX1, 8), rfl, by decide, iG1, Or.inr ⟨_, tblN_m1 178 rfl rfl⟩⟩
set_option maxRecDepth 20000 in
theorem f1_15 : xFld "LacePins$Joins" 15 1 1 := ⟨(RX1, TX1, 8), rfl, by decide, iG1, Or.inl (tblG_m1 179 rfl rfl)⟩
set_option maxRecDepth 20000 in
theorem f1_18 : xFld "LacePins$Joins" 18 1 2 := ⟨(RX1, TX1, 8), rfl, by decide, iG1, Or.inl (tblG_m1 180 rfl rfl)⟩
set_option maxRecDepth 20000 in
theorem f7_264 : xFld "LacePins" 264 1 2 := ⟨(RX1, TX1, 8), rfl, by decide, iG1, Or.inr ⟨_, tblN_m1 181 rfl rfl⟩⟩
set_option maxRecDepth 20000 in
theorem f1_21 : xFld "LacePins$Joins" 21 1 3 := ⟨(RX1, TX1, 8), rfl, by decide, iG1, Or.inl (tblG_m1 182 rfl rfl)⟩
set_option maxRecDepth 20000 in
theorem f7_267 : xFld "LacePins" 267 1 3 := ⟨(RX1, TX1, 8), rfl, by decide, iG1, Or.inr ⟨_, tblN_m1 183 rfl rfl⟩⟩
set_option maxRecDepth 20000 in
theorem f1_24 : xFld "LacePins$Joins" 24 1 4 := ⟨(RX1, TX1, 8), rfl, by decide, iG1, Or.inl (tblG_m1 184 rfl rfl)⟩
set_option maxRecDepth 20000 in
theorem f7_270 : xFld "LacePins" 270 1 4 := ⟨(RX1, TX1, 8), rfl, by decide, iG1, Or.inr ⟨_, tblN_m1 185 rfl rfl⟩⟩
set_option maxRecDepth 20000 in
theorem f1_28 : xFld "LacePins$Joins" 28 1 5 := ⟨(RX1, TX1, 8), rfl, by decide, iG1, Or.inl (tblG_m1 186 rfl rfl)⟩
set_option maxRecDepth 20000 in
theorem f7_279 : xFld "LacePins" 279 1 5 := ⟨(RX1, TX1, 8), rfl, by decide, iG1, Or.inr ⟨_, tblN_m1 187 rfl rfl⟩⟩
set_option maxRecDepth 20000 in
theorem f1_31 : xFld "LacePins$Joins" 31 1 6 := ⟨(RX1, TX1, 8), rfl, by decide, iG1, Or.inl (tblG_m1 188 rfl rfl)⟩
set_option maxRecDepth 20000 in
theorem f7_276 : xFld "LacePins" 276 1 6 := ⟨(RX1, TX1, 8), rfl, by decide, iG1, Or.inr ⟨_, tblN_m1 189 rfl rfl⟩⟩
set_option maxRecDepth 20000 in
theorem f1_34 : xFld "LacePins$Joins" 34 1 7 := ⟨(RX1, TX1, 8), rfl, by decide, iG1, Or.inl (tblG_m1 190 rfl rfl)⟩
set_option maxRecDepth 20000 in
theorem f5_9 : xFld "LacePins$Tape" 9 5 0 := ⟨(RX5, TX5, 9), rfl, by decide, iG5, Or.inl (tblG_m1 214 rfl rfl)⟩
set_option maxRecDepth 20000 in
theorem f5_15 : xFld "LacePins$Tape" 15 5 1 := ⟨(RX5, TX5, 9), rfl, by decide, iG5, Or.inl (tblG_m1 215 rfl rfl)⟩
set_option maxRecDepth 20000 in
theorem f7_305 : xFld "LacePins" 305 5 1 := ⟨(RX5, TX5, 9), rfl, by decide, iG5, Or.inr ⟨_, tblN_m1 216 rfl rfl⟩⟩
set_option maxRecDepth 20000 in
theorem f5_19 : xFld "LacePins$Tape" 19 5 2 := ⟨(RX5, TX5, 9), rfl, by decide, iG5, Or.inl (tblG_m1 217 rfl rfl)⟩
set_option maxRecDepth 20000 in
theorem f5_22 : xFld "LacePins$Tape" 22 5 3 := ⟨(RX5, TX5, 9), rfl, by decide, iG5, Or.inl (tblG_m1 218 rfl rfl)⟩
set_option maxRecDepth 20000 in
theorem f7_311 : xFld "LacePins" 311 5 3 := ⟨(RX5, TX5, 9), rfl, by decide, iG5, Or.inr ⟨_, tblN_m1 219 rfl rfl⟩⟩
set_option maxRecDepth 20000 in
theorem f5_25 : xFld "LacePins$Tape" 25 5 4 := ⟨(RX5, TX5, 9), rfl, by decide, iG5, Or.inl (tblG_m1 220 rfl rfl)⟩
set_option maxRecDepth 20000 in
theorem f7_317 : xFld "LacePins" 317 5 4 := ⟨(RX5, TX5, 9), rfl, by decide, iG5, Or.inr ⟨_, tblN_m1 221 rfl rfl⟩⟩
set_option maxRecDepth 20000 in
theorem f5_28 : xFld "LacePins$Tape" 28 5 5 := ⟨(RX5, TX5, 9), rfl, by decide, iG5, Or.inl (tblG_m1 222 rfl rfl)⟩
set_option maxRecDepth 20000 in
theorem f7_367 : xFld "LacePins" 367 5 5 := ⟨(RX5, TX5, 9), rfl, by decide, iG5, Or.inr ⟨_, tblN_m1 223 rfl rfl⟩⟩
set_option maxRecDepth 20000 in
theorem f5_31 : xFld "LacePins$Tape" 31 5 6 := ⟨(RX5, TX5, 9), rfl, by decide, iG5, Or.inl (tblG_m1 224 rfl rfl)⟩
set_option maxRecDepth 20000 in
theorem f7_361 : xFld "LacePins" 361 5 6 := ⟨(RX5, TX5, 9), rfl, by decide, iG5, Or.inr ⟨_, tblN_m1 225 rfl rfl⟩⟩
set_option maxRecDepth 20000 in
theorem f5_34 : xFld "LacePins$Tape" 34 5 7 := ⟨(RX5, TX5, 9), rfl, by decide, iG5, Or.inl (tblG_m1 226 rfl rfl)⟩
set_option maxRecDepth 20000 in
theorem f7_364 : xFld "LacePins" 364 5 7 := ⟨(RX5, TX5, 9), rfl, by decide, iG5, Or.inr ⟨_, tblN_m1 227 rfl rfl⟩⟩
set_option maxRecDepth 20000 in
theorem f5_37 : xFld "LacePins$Tape" 37 5 8 := ⟨(RX5, TX5, 9), rfl, by decide, iG5, Or.inl (tblG_m1 228 rfl rfl)⟩
set_option maxRecDepth 20000 in
theorem f7_370 : xFld "LacePins" 370 5 8 := ⟨(RX5, TX5, 9), rfl, by decide, iG5, Or.inr ⟨_, tblN_m1 229 rfl rfl⟩⟩
set_option maxRecDepth 20000 in
theorem f4_11 : xFld "LacePins$Rows" 11 4 0 := ⟨(RX4, TX4, 2), rfl, by decide, iG4, Or.inl (tblG_m2 15 rfl rfl)⟩
set_option maxRecDepth 20000 in
theorem f7_291 : xFld "LacePins" 291 4 0 := ⟨(RX4, TX4, 2), rfl, by decide, iG4, Or.inr ⟨_, tblN_m2 16 rfl rfl⟩⟩
set_option maxRecDepth 20000 in
theorem f4_15 : xFld "LacePins$Rows" 15 4 1 := ⟨(RX4, TX4, 2), rfl, by decide, iG4, Or.inl (tblG_m2 17 rfl rfl)⟩
set_option maxRecDepth 20000 in
theorem f7_12 : xFld "LacePins" 12 7 0 := ⟨(RX7, TX7, 13), rfl, by decide, iG7, Or.inl (tblG_m2 31 rfl rfl)⟩
set_option maxRecDepth 20000 in
theorem f7_21 : xFld "LacePins" 21 7 1 := ⟨(RX7, TX7, 13), rfl, by decide, iG7, Or.inl (tblG_m2 32 rfl rfl)⟩
set_option maxRecDepth 20000 in
theorem f7_25 : xFld "LacePins" 25 7 2 := ⟨(RX7, TX7, 13), rfl, by decide, iG7, Or.inl (tblG_m2 33 rfl rfl)⟩
set_option maxRecDepth 20000 in
theorem f7_28 : xFld "LacePins" 28 7 3 := ⟨(RX7, TX7, 13), rfl, by decide, iG7, Or.inl (tblG_m2 34 rfl rfl)⟩
set_option maxRecDepth 20000 in
theorem f7_31 : xFld "LacePins" 31 7 4 := ⟨(RX7, TX7, 13), rfl, by decide, iG7, Or.inl (tblG_m2 35 rfl rfl)⟩
set_option maxRecDepth 20000 in
theorem f7_35 : xFld "LacePins" 35 7 5 := ⟨(RX7, TX7, 13), rfl, by decide, iG7, Or.inl (tblG_m2 36 rfl rfl)⟩
set_option maxRecDepth 20000 in
theorem f7_41 : xFld "LacePins" 41 7 6 := ⟨(RX7, TX7, 13), rfl, by decide, iG7, Or.inl (tblG_m2 37 rfl rfl)⟩
set_option maxRecDepth 20000 in
theorem f7_48 : xFld "LacePins" 48 7 7 := ⟨(RX7, TX7, 13), rfl, by decide, iG7, Or.inl (tblG_m2 38 rfl rfl)⟩
set_option maxRecDepth 20000 in
theorem f7_55 : xFld "LacePins" 55 7 8 := ⟨(RX7, TX7, 13), rfl, by decide, iG7, Or.inl (tblG_m2 39 rfl rfl)⟩
set_option maxRecDepth 20000 in
theorem f7_62 : xFld "LacePins" 62 7 9 := ⟨(RX7, TX7, 13), rfl, by decide, iG7, Or.inl (tblG_m2 40 rfl rfl)⟩
set_option maxRecDepth 20000 in
theorem f7_69 : xFld "LacePins" 69 7 10 := ⟨(RX7, TX7, 13), rfl, by decide, iG7, Or.inl (tblG_m2 41 rfl rfl)⟩
set_option maxRecDepth 20000 in
theorem f7_73 : xFld "LacePins" 73 7 11 := ⟨(RX7, TX7, 13), rfl, by decide, iG7, Or.inl (tblG_m2 42 rfl rfl)⟩
set_option maxRecDepth 20000 in
theorem f7_77 : xFld "LacePins" 77 7 12 := ⟨(RX7, TX7, 13), rfl, by decide, iG7, Or.inl (tblG_m2 43 rfl rfl)⟩
set_option maxRecDepth 20000 in
theorem f8_11 : xFld "LacePinsModel" 11 8 0 := ⟨(RX8, TX8, 30), rfl, by decide, iG8, Or.inl (tblG_m4 236 rfl rfl)⟩
set_option maxRecDepth 20000 in
theorem f8_15 : xFld "LacePinsModel" 15 8 1 := ⟨(RX8, TX8, 30), rfl, by decide, iG8, Or.inl (tblG_m4 237 rfl rfl)⟩
set_option maxRecDepth 20000 in
theorem f8_18 : xFld "LacePinsModel" 18 8 2 := ⟨(RX8, TX8, 30), rfl, by decide, iG8, Or.inl (tblG_m4 238 rfl rfl)⟩
set_option maxRecDepth 20000 in
theorem f8_275 : xFld "LacePinsModel" 275 8 3 := ⟨(RX8, TX8, 30), rfl, by decide, iG8, Or.inl (tblG_m4 239 rfl rfl)⟩
set_option maxRecDepth 20000 in
theorem f8_21 : xFld "LacePinsModel" 21 8 4 := ⟨(RX8, TX8, 30), rfl, by decide, iG8, Or.inl (tblG_m5 0 rfl rfl)⟩
set_option maxRecDepth 20000 in
theorem f8_25 : xFld "LacePinsModel" 25 8 5 := ⟨(RX8, TX8, 30), rfl, by decide, iG8, Or.inl (tblG_m5 1 rfl rfl)⟩
set_option maxRecDepth 20000 in
theorem f8_28 : xFld "LacePinsModel" 28 8 6 := ⟨(RX8, TX8, 30), rfl, by decide, iG8, Or.inl (tblG_m5 2 rfl rfl)⟩
set_option maxRecDepth 20000 in
theorem f8_31 : xFld "LacePinsModel" 31 8 7 := ⟨(RX8, TX8, 30), rfl, by decide, iG8, Or.inl (tblG_m5 3 rfl rfl)⟩
set_option maxRecDepth 20000 in
theorem f8_34 : xFld "LacePinsModel" 34 8 8 := ⟨(RX8, TX8, 30), rfl, by decide, iG8, Or.inl (tblG_m5 4 rfl rfl)⟩
set_option maxRecDepth 20000 in
theorem f8_38 : xFld "LacePinsModel" 38 8 9 := ⟨(RX8, TX8, 30), rfl, by decide, iG8, Or.inl (tblG_m5 5 rfl rfl)⟩
set_option maxRecDepth 20000 in
theorem f8_164 : xFld "LacePinsModel" 164 8 10 := ⟨(RX8, TX8, 30), rfl, by decide, iG8, Or.inl (tblG_m5 6 rfl rfl)⟩
set_option maxRecDepth 20000 in
theorem f8_41 : xFld "LacePinsModel" 41 8 11 := ⟨(RX8, TX8, 30), rfl, by decide, iG8, Or.inl (tblG_m5 7 rfl rfl)⟩
set_option maxRecDepth 20000 in
theorem f8_44 : xFld "LacePinsModel" 44 8 12 := ⟨(RX8, TX8, 30), rfl, by decide, iG8, Or.inl (tblG_m5 8 rfl rfl)⟩
set_option maxRecDepth 20000 in
theorem f8_47 : xFld "LacePinsModel" 47 8 13 := ⟨(RX8, TX8, 30), rfl, by decide, iG8, Or.inl (tblG_m5 9 rfl rfl)⟩
set_option maxRecDepth 20000 in
theorem f8_50 : xFld "LacePinsModel" 50 8 14 := ⟨(RX8, TX8, 30), rfl, by decide, iG8, Or.inl (tblG_m5 10 rfl rfl)⟩
set_option maxRecDepth 20000 in
theorem f8_198 : xFld "LacePinsModel" 198 8 15 := ⟨(RX8, TX8, 30), rfl, by decide, iG8, Or.inl (tblG_m5 11 rfl rfl)⟩
set_option maxRecDepth 20000 in
theorem f8_201 : xFld "LacePinsModel" 201 8 16 := ⟨(RX8, TX8, 30), rfl, by decide, iG8, Or.inl (tblG_m5 12 rfl rfl)⟩
set_option maxRecDepth 20000 in
theorem f8_204 : xFld "LacePinsModel" 204 8 17 := ⟨(RX8, TX8, 30), rfl, by decide, iG8, Or.inl (tblG_m5 13 rfl rfl)⟩
set_option maxRecDepth 20000 in
theorem f8_207 : xFld "LacePinsModel" 207 8 18 := ⟨(RX8, TX8, 30), rfl, by decide, iG8, Or.inl (tblG_m5 14 rfl rfl)⟩
set_option maxRecDepth 20000 in
theorem f8_53 : xFld "LacePinsModel" 53 8 19 := ⟨(RX8, TX8, 30), rfl, by decide, iG8, Or.inl (tblG_m5 15 rfl rfl)⟩
set_option maxRecDepth 20000 in
theorem f8_56 : xFld "LacePinsModel" 56 8 20 := ⟨(RX8, TX8, 30), rfl, by decide, iG8, Or.inl (tblG_m5 16 rfl rfl)⟩
set_option maxRecDepth 20000 in
theorem f8_59 : xFld "LacePinsModel" 59 8 21 := ⟨(RX8, TX8, 30), rfl, by decide, iG8, Or.inl (tblG_m5 17 rfl rfl)⟩
set_option maxRecDepth 20000 in
theorem f8_230 : xFld "LacePinsModel" 230 8 22 := ⟨(RX8, TX8, 30), rfl, by decide, iG8, Or.inl (tblG_m5 18 rfl rfl)⟩
set_option maxRecDepth 20000 in
theorem f8_220 : xFld "LacePinsModel" 220 8 23 := ⟨(RX8, TX8, 30), rfl, by decide, iG8, Or.inl (tblG_m5 19 rfl rfl)⟩
set_option maxRecDepth 20000 in
theorem f8_233 : xFld "LacePinsModel" 233 8 24 := ⟨(RX8, TX8, 30), rfl, by decide, iG8, Or.inl (tblG_m5 20 rfl rfl)⟩
set_option maxRecDepth 20000 in
theorem f8_236 : xFld "LacePinsModel" 236 8 25 := ⟨(RX8, TX8, 30), rfl, by decide, iG8, Or.inl (tblG_m5 21 rfl rfl)⟩
set_option maxRecDepth 20000 in
theorem f8_62 : xFld "LacePinsModel" 62 8 26 := ⟨(RX8, TX8, 30), rfl, by decide, iG8, Or.inl (tblG_m5 22 rfl rfl)⟩
set_option maxRecDepth 20000 in
theorem f8_65 : xFld "LacePinsModel" 65 8 27 := ⟨(RX8, TX8, 30), rfl, by decide, iG8, Or.inl (tblG_m5 23 rfl rfl)⟩
set_option maxRecDepth 20000 in
theorem f8_68 : xFld "LacePinsModel" 68 8 28 := ⟨(RX8, TX8, 30), rfl, by decide, iG8, Or.inl (tblG_m5 24 rfl rfl)⟩
set_option maxRecDepth 20000 in
theorem f8_71 : xFld "LacePinsModel" 71 8 29 := ⟨(RX8, TX8, 30), rfl, by decide, iG8, Or.inl (tblG_m5 25 rfl rfl)⟩
set_option maxRecDepth 20000 in
theorem lk7_81 {mi : xM} (h : mi.1.cls = "LacePins") : xLink mi mX3_begin 1 81 := ⟨tblG_m2 26 rfl rfl, tblG_m1 2 rfl rfl, by decide +kernel, by decide, ⟨by decide +kernel, by decide +kernel, by decide +kernel⟩, by rw [h]; exact tblG_m2 23 rfl rfl⟩
set_option maxRecDepth 20000 in
theorem lk7_85 {mi : xM} (h : mi.1.cls = "LacePins") : xLink mi mX0_begin 1 85 := ⟨tblG_m2 30 rfl rfl, tblG_m1 3 rfl rfl, by decide +kernel, by decide, ⟨by decide +kernel, by decide +kernel, by decide +kernel⟩, by rw [h]; exact tblG_m2 27 rfl rfl⟩
set_option maxRecDepth 20000 in
theorem lk7_89 {mi : xM} (h : mi.1.cls = "LacePins") : xLink mi mX7_isRow 1 89 := ⟨tblG_m2 81 rfl rfl, tblG_m1 1 rfl rfl, by decide +kernel, by decide, ⟨by decide +kernel, by decide +kernel, by decide +kernel⟩, by rw [h]; exact tblG_m2 79 rfl rfl⟩
set_option maxRecDepth 20000 in
theorem lk7_93 {mi : xM} (h : mi.1.cls = "LacePins") : xLink mi mX3_isPinSlot 1 93 := ⟨tblG_m2 85 rfl rfl, tblG_m1 2 rfl rfl, by decide +kernel, by decide, ⟨by decide +kernel, by decide +kernel, by decide +kernel⟩, by rw [h]; exact tblG_m2 82 rfl rfl⟩
set_option maxRecDepth 20000 in
theorem lk7_96 {mi : xM} (h : mi.1.cls = "LacePins") : xLink mi mX7_isStitch 1 96 := ⟨tblG_m2 88 rfl rfl, tblG_m1 1 rfl rfl, by decide +kernel, by decide, ⟨by decide +kernel, by decide +kernel, by decide +kernel⟩, by rw [h]; exact tblG_m2 86 rfl rfl⟩
set_option maxRecDepth 20000 in
theorem lk7_99 {mi : xM} (h : mi.1.cls = "LacePins") : xLink mi mX7_anyDone 0 99 := ⟨tblG_m2 92 rfl rfl, tblG_m1 1 rfl rfl, by decide +kernel, by decide, ⟨by decide +kernel, by decide +kernel, by decide +kernel⟩, by rw [h]; exact tblG_m2 89 rfl rfl⟩
set_option maxRecDepth 20000 in
theorem lk7_103 {mi : xM} (h : mi.1.cls = "LacePins") : xLink mi mX3_addPin 3 103 := ⟨tblG_m2 96 rfl rfl, tblG_m1 2 rfl rfl, by decide +kernel, by decide, ⟨by decide +kernel, by decide +kernel, by decide +kernel⟩, by rw [h]; exact tblG_m2 93 rfl rfl⟩
set_option maxRecDepth 20000 in
theorem lk7_110 {mi : xM} (h : mi.1.cls = "LacePins") : xLink mi mX3_isPin 1 110 := ⟨tblG_m2 111 rfl rfl, tblG_m1 2 rfl rfl, by decide +kernel, by decide, ⟨by decide +kernel, by decide +kernel, by decide +kernel⟩, by rw [h]; exact tblG_m2 108 rfl rfl⟩
set_option maxRecDepth 20000 in
theorem lk7_122 {mi : xM} (h : mi.1.cls = "LacePins") : xLink mi mX0_isDone 1 122 := ⟨tblG_m2 119 rfl rfl, tblG_m1 3 rfl rfl, by decide +kernel, by decide, ⟨by decide +kernel, by decide +kernel, by decide +kernel⟩, by rw [h]; exact tblG_m2 116 rfl rfl⟩
set_option maxRecDepth 20000 in
theorem lk0_41 {mi : xM} (h : mi.1.cls = "LacePins$Bench") : xLinkN mi mX7_hasPin 2 41 := ⟨tblG_m2 122 rfl rfl, tblG_m1 1 rfl rfl, by decide +kernel, by decide, ⟨by decide +kernel, by decide +kernel, by decide +kernel⟩, _, by rw [h]; exact tblN_m2 120 rfl rfl⟩
set_option maxRecDepth 20000 in
theorem lk7_342 {mi : xM} (h : mi.1.cls = "LacePins") : xLink mi mX7_pinBit 1 342 := ⟨tblG_m2 125 rfl rfl, tblG_m1 1 rfl rfl, by decide +kernel, by decide, ⟨by decide +kernel, by decide +kernel, by decide +kernel⟩, by rw [h]; exact tblG_m2 123 rfl rfl⟩
set_option maxRecDepth 20000 in
theorem lk7_125 {mi : xM} (h : mi.1.cls = "LacePins") : xLink mi mX7_depthOf 1 125 := ⟨tblG_m2 129 rfl rfl, tblG_m1 1 rfl rfl, by decide +kernel, by decide, ⟨by decide +kernel, by decide +kernel, by decide +kernel⟩, by rw [h]; exact tblG_m2 126 rfl rfl⟩
set_option maxRecDepth 20000 in
theorem lk7_155 {mi : xM} (h : mi.1.cls = "LacePins") : xLink mi mX2_study 1 155 := ⟨tblG_m2 133 rfl rfl, tblG_m1 4 rfl rfl, by decide +kernel, by decide, ⟨by decide +kernel, by decide +kernel, by decide +kernel⟩, by rw [h]; exact tblG_m2 130 rfl rfl⟩
set_option maxRecDepth 20000 in
theorem lk2_28 {mi : xM} (h : mi.1.cls = "LacePins$Needs") : xLink mi mX2_sortByRow 1 28 := ⟨tblG_m2 137 rfl rfl, tblG_m1 4 rfl rfl, by decide +kernel, by decide, ⟨by decide +kernel, by decide +kernel, by decide +kernel⟩, by rw [h]; exact tblG_m2 134 rfl rfl⟩
set_option maxRecDepth 20000 in
theorem lk2_32 {mi : xM} (h : mi.1.cls = "LacePins$Needs") : xLink mi mJ_fill 2 32 := ⟨tblG_m2 140 rfl rfl, tblG_m1 11 rfl rfl, by decide +kernel, by decide, ⟨by decide +kernel, by decide +kernel, by decide +kernel⟩, by rw [h]; exact tblG_m2 138 rfl rfl⟩
set_option maxRecDepth 20000 in
theorem lk2_47 {mi : xM} (h : mi.1.cls = "LacePins$Needs") : xLink mi mX2_take 2 47 := ⟨tblG_m2 144 rfl rfl, tblG_m1 4 rfl rfl, by decide +kernel, by decide, ⟨by decide +kernel, by decide +kernel, by decide +kernel⟩, by rw [h]; exact tblG_m2 141 rfl rfl⟩
set_option maxRecDepth 20000 in
theorem lk2_54 {mi : xM} (h : mi.1.cls = "LacePins$Needs") : xLinkN mi mX7_pinBit 1 54 := ⟨tblG_m2 125 rfl rfl, tblG_m1 1 rfl rfl, by decide +kernel, by decide, ⟨by decide +kernel, by decide +kernel, by decide +kernel⟩, _, by rw [h]; exact tblN_m2 145 rfl rfl⟩
set_option maxRecDepth 20000 in
theorem lk7_129 {mi : xM} (h : mi.1.cls = "LacePins") : xLink mi mX3_lacksPair 1 129 := ⟨tblG_m2 152 rfl rfl, tblG_m1 2 rfl rfl, by decide +kernel, by decide, ⟨by decide +kernel, by decide +kernel, by decide +kernel⟩, by rw [h]; exact tblG_m2 149 rfl rfl⟩
set_option maxRecDepth 20000 in
theorem lk3_69 {mi : xM} (h : mi.1.cls = "LacePins$Pattern") : xLink mi mX3_isFilled 2 69 := ⟨tblG_m2 156 rfl rfl, tblG_m1 2 rfl rfl, by decide +kernel, by decide, ⟨by decide +kernel, by decide +kernel, by decide +kernel⟩, by rw [h]; exact tblG_m2 153 rfl rfl⟩
set_option maxRecDepth 20000 in
theorem lk3_63 {mi : xM} (h : mi.1.cls = "LacePins$Pattern") : xLink mi mX3_slotOfTurn 1 63 := ⟨tblG_m2 159 rfl rfl, tblG_m1 2 rfl rfl, by decide +kernel, by decide, ⟨by decide +kernel, by decide +kernel, by decide +kernel⟩, by rw [h]; exact tblG_m2 157 rfl rfl⟩
set_option maxRecDepth 20000 in
theorem lk3_66 {mi : xM} (h : mi.1.cls = "LacePins$Pattern") : xLink mi mX3_rowOfTurn 1 66 := ⟨tblG_m2 162 rfl rfl, tblG_m1 2 rfl rfl, by decide +kernel, by decide, ⟨by decide +kernel, by decide +kernel, by decide +kernel⟩, by rw [h]; exact tblG_m2 160 rfl rfl⟩
set_option maxRecDepth 20000 in
theorem lk7_132 {mi : xM} (h : mi.1.cls = "LacePins") : xLink mi mX3_isSlot 1 132 := ⟨tblG_m2 170 rfl rfl, tblG_m1 2 rfl rfl, by decide +kernel, by decide, ⟨by decide +kernel, by decide +kernel, by decide +kernel⟩, by rw [h]; exact tblG_m2 167 rfl rfl⟩
set_option maxRecDepth 20000 in
theorem lk7_135 {mi : xM} (h : mi.1.cls = "LacePins") : xLink mi mX3_fillAtFirst 2 135 := ⟨tblG_m2 174 rfl rfl, tblG_m1 2 rfl rfl, by decide +kernel, by decide, ⟨by decide +kernel, by decide +kernel, by decide +kernel⟩, by rw [h]; exact tblG_m2 171 rfl rfl⟩
set_option maxRecDepth 20000 in
theorem lk7_139 {mi : xM} (h : mi.1.cls = "LacePins") : xLink mi mX3_turnAt 2 139 := ⟨tblG_m2 182 rfl rfl, tblG_m1 2 rfl rfl, by decide +kernel, by decide, ⟨by decide +kernel, by decide +kernel, by decide +kernel⟩, by rw [h]; exact tblG_m2 179 rfl rfl⟩
set_option maxRecDepth 20000 in
theorem lk3_49 {mi : xM} (h : mi.1.cls = "LacePins$Pattern") : xLink mi mX3_turnNumber 2 49 := ⟨tblG_m2 185 rfl rfl, tblG_m1 2 rfl rfl, by decide +kernel, by decide, ⟨by decide +kernel, by decide +kernel, by decide +kernel⟩, by rw [h]; exact tblG_m2 183 rfl rfl⟩
set_option maxRecDepth 20000 in
theorem lk3_53 {mi : xM} (h : mi.1.cls = "LacePins$Pattern") : xLink mi mX3_placeOfTurn 1 53 := ⟨tblG_m2 189 rfl rfl, tblG_m1 2 rfl rfl, by decide +kernel, by decide, ⟨by decide +kernel, by decide +kernel, by decide +kernel⟩, by rw [h]; exact tblG_m2 186 rfl rfl⟩
set_option maxRecDepth 20000 in
theorem lk3_56 {mi : xM} (h : mi.1.cls = "LacePins$Pattern") : xLink mi mX3_removeTurn 1 56 := ⟨tblG_m2 193 rfl rfl, tblG_m1 2 rfl rfl, by decide +kernel, by decide, ⟨by decide +kernel, by decide +kernel, by decide +kernel⟩, by rw [h]; exact tblG_m2 190 rfl rfl⟩
set_option maxRecDepth 20000 in
theorem lk3_60 {mi : xM} (h : mi.1.cls = "LacePins$Pattern") : xLink mi mX3_sortTurns 0 60 := ⟨tblG_m2 197 rfl rfl, tblG_m1 2 rfl rfl, by decide +kernel, by decide, ⟨by decide +kernel, by decide +kernel, by decide +kernel⟩, by rw [h]; exact tblG_m2 194 rfl rfl⟩
set_option maxRecDepth 20000 in
theorem lk7_143 {mi : xM} (h : mi.1.cls = "LacePins") : xLink mi mX3_isFilled 2 143 := ⟨tblG_m2 156 rfl rfl, tblG_m1 2 rfl rfl, by decide +kernel, by decide, ⟨by decide +kernel, by decide +kernel, by decide +kernel⟩, by rw [h]; exact tblG_m2 202 rfl rfl⟩
set_option maxRecDepth 20000 in
theorem lk7_147 {mi : xM} (h : mi.1.cls = "LacePins") : xLink mi mX3_flip 0 147 := ⟨tblG_m2 210 rfl rfl, tblG_m1 2 rfl rfl, by decide +kernel, by decide, ⟨by decide +kernel, by decide +kernel, by decide +kernel⟩, by rw [h]; exact tblG_m2 207 rfl rfl⟩
set_option maxRecDepth 20000 in
theorem lk3_84 {mi : xM} (h : mi.1.cls = "LacePins$Pattern") : xLink mi mX3_flippedTurn 1 84 := ⟨tblG_m2 214 rfl rfl, tblG_m1 2 rfl rfl, by decide +kernel, by decide, ⟨by decide +kernel, by decide +kernel, by decide +kernel⟩, by rw [h]; exact tblG_m2 211 rfl rfl⟩
set_option maxRecDepth 20000 in
theorem lk3_87 {mi : xM} (h : mi.1.cls = "LacePins$Pattern") : xLink mi mX3_flippedFill 0 87 := ⟨tblG_m2 218 rfl rfl, tblG_m1 2 rfl rfl, by decide +kernel, by decide, ⟨by decide +kernel, by decide +kernel, by decide +kernel⟩, by rw [h]; exact tblG_m2 215 rfl rfl⟩
set_option maxRecDepth 20000 in
theorem lk7_150 {mi : xM} (h : mi.1.cls = "LacePins") : xLink mi mX3_isEven 0 150 := ⟨tblG_m2 226 rfl rfl, tblG_m1 2 rfl rfl, by decide +kernel, by decide, ⟨by decide +kernel, by decide +kernel, by decide +kernel⟩, by rw [h]; exact tblG_m2 223 rfl rfl⟩
set_option maxRecDepth 20000 in
theorem lk3_91 {mi : xM} (h : mi.1.cls = "LacePins$Pattern") : xLink mi mX3_hasLike 3 91 := ⟨tblG_m2 230 rfl rfl, tblG_m1 2 rfl rfl, by decide +kernel, by decide, ⟨by decide +kernel, by decide +kernel, by decide +kernel⟩, by rw [h]; exact tblG_m2 227 rfl rfl⟩
set_option maxRecDepth 20000 in
theorem lk7_166 {mi : xM} (h : mi.1.cls = "LacePins") : xLink mi mX2_neededBy 2 166 := ⟨tblG_m2 239 rfl rfl, tblG_m1 4 rfl rfl, by decide +kernel, by decide, ⟨by decide +kernel, by decide +kernel, by decide +kernel⟩, by rw [h]; exact tblG_m2 236 rfl rfl⟩
set_option maxRecDepth 20000 in
theorem lk2_64 {mi : xM} (h : mi.1.cls = "LacePins$Needs") : xLinkN mi mX7_hasPin 2 64 := ⟨tblG_m2 122 rfl rfl, tblG_m1 1 rfl rfl, by decide +kernel, by decide, ⟨by decide +kernel, by decide +kernel, by decide +kernel⟩, _, by rw [h]; exact tblN_m3 0 rfl rfl⟩
set_option maxRecDepth 20000 in
theorem lk7_170 {mi : xM} (h : mi.1.cls = "LacePins") : xLink mi mX7_lackingPins 0 170 := ⟨tblG_m3 8 rfl rfl, tblG_m1 1 rfl rfl, by decide +kernel, by decide, ⟨by decide +kernel, by decide +kernel, by decide +kernel⟩, by rw [h]; exact tblG_m3 5 rfl rfl⟩
set_option maxRecDepth 20000 in
theorem lk7_174 {mi : xM} (h : mi.1.cls = "LacePins") : xLink mi mX7_readyPins 0 174 := ⟨tblG_m3 12 rfl rfl, tblG_m1 1 rfl rfl, by decide +kernel, by decide, ⟨by decide +kernel, by decide +kernel, by decide +kernel⟩, by rw [h]; exact tblG_m3 9 rfl rfl⟩
set_option maxRecDepth 20000 in
theorem lk7_189 {mi : xM} (h : mi.1.cls = "LacePins") : xLink mi mX7_hasPin 2 189 := ⟨tblG_m2 122 rfl rfl, tblG_m1 1 rfl rfl, by decide +kernel, by decide, ⟨by decide +kernel, by decide +kernel, by decide +kernel⟩, by rw [h]; exact tblG_m3 13 rfl rfl⟩
set_option maxRecDepth 20000 in
theorem lk7_193 {mi : xM} (h : mi.1.cls = "LacePins") : xLink mi mX7_workOne 1 193 := ⟨tblG_m3 27 rfl rfl, tblG_m1 1 rfl rfl, by decide +kernel, by decide, ⟨by decide +kernel, by decide +kernel, by decide +kernel⟩, by rw [h]; exact tblG_m3 24 rfl rfl⟩
set_option maxRecDepth 20000 in
theorem lk7_348 {mi : xM} (h : mi.1.cls = "LacePins") : xLink mi mX0_workPin 3 348 := ⟨tblG_m3 31 rfl rfl, tblG_m1 3 rfl rfl, by decide +kernel, by decide, ⟨by decide +kernel, by decide +kernel, by decide +kernel⟩, by rw [h]; exact tblG_m3 28 rfl rfl⟩
set_option maxRecDepth 20000 in
theorem lk0_45 {mi : xM} (h : mi.1.cls = "LacePins$Bench") : xLinkN mi mX7_actCount 1 45 := ⟨tblG_m3 34 rfl rfl, tblG_m1 1 rfl rfl, by decide +kernel, by decide, ⟨by decide +kernel, by decide +kernel, by decide +kernel⟩, _, by rw [h]; exact tblN_m3 32 rfl rfl⟩
set_option maxRecDepth 20000 in
theorem lk0_49 {mi : xM} (h : mi.1.cls = "LacePins$Bench") : xLinkN mi mX7_isCrossAct 2 49 := ⟨tblG_m3 37 rfl rfl, tblG_m1 1 rfl rfl, by decide +kernel, by decide, ⟨by decide +kernel, by decide +kernel, by decide +kernel⟩, _, by rw [h]; exact tblN_m3 35 rfl rfl⟩
set_option maxRecDepth 20000 in
theorem lk0_53 {mi : xM} (h : mi.1.cls = "LacePins$Bench") : xLink mi mX0_goOver 2 53 := ⟨tblG_m3 41 rfl rfl, tblG_m1 3 rfl rfl, by decide +kernel, by decide, ⟨by decide +kernel, by decide +kernel, by decide +kernel⟩, by rw [h]; exact tblG_m3 38 rfl rfl⟩
set_option maxRecDepth 20000 in
theorem lk0_66 {mi : xM} (h : mi.1.cls = "LacePins$Bench") : xLink mi mX0_changePlaces 2 66 := ⟨tblG_m3 45 rfl rfl, tblG_m1 3 rfl rfl, by decide +kernel, by decide, ⟨by decide +kernel, by decide +kernel, by decide +kernel⟩, by rw [h]; exact tblG_m3 42 rfl rfl⟩
set_option maxRecDepth 20000 in
theorem lk0_57 {mi : xM} (h : mi.1.cls = "LacePins$Bench") : xLinkN mi mX7_pinBit 1 57 := ⟨tblG_m2 125 rfl rfl, tblG_m1 1 rfl rfl, by decide +kernel, by decide, ⟨by decide +kernel, by decide +kernel, by decide +kernel⟩, _, by rw [h]; exact tblN_m3 46 rfl rfl⟩
set_option maxRecDepth 20000 in
theorem lk7_199 {mi : xM} (h : mi.1.cls = "LacePins") : xLink mi mX3_uppermost 1 199 := ⟨tblG_m3 54 rfl rfl, tblG_m1 2 rfl rfl, by decide +kernel, by decide, ⟨by decide +kernel, by decide +kernel, by decide +kernel⟩, by rw [h]; exact tblG_m3 51 rfl rfl⟩
set_option maxRecDepth 20000 in
theorem lk3_77 {mi : xM} (h : mi.1.cls = "LacePins$Pattern") : xLinkN mi mX7_hasPin 2 77 := ⟨tblG_m2 122 rfl rfl, tblG_m1 1 rfl rfl, by decide +kernel, by decide, ⟨by decide +kernel, by decide +kernel, by decide +kernel⟩, _, by rw [h]; exact tblN_m3 55 rfl rfl⟩
set_option maxRecDepth 20000 in
theorem lk3_81 {mi : xM} (h : mi.1.cls = "LacePins$Pattern") : xLink mi mX3_isAbove 2 81 := ⟨tblG_m3 59 rfl rfl, tblG_m1 2 rfl rfl, by decide +kernel, by decide, ⟨by decide +kernel, by decide +kernel, by decide +kernel⟩, by rw [h]; exact tblG_m3 56 rfl rfl⟩
set_option maxRecDepth 20000 in
theorem lk7_203 {mi : xM} (h : mi.1.cls = "LacePins") : xLink mi mX0_lastWorked 0 203 := ⟨tblG_m3 67 rfl rfl, tblG_m1 3 rfl rfl, by decide +kernel, by decide, ⟨by decide +kernel, by decide +kernel, by decide +kernel⟩, by rw [h]; exact tblG_m3 64 rfl rfl⟩
set_option maxRecDepth 20000 in
theorem lk7_207 {mi : xM} (h : mi.1.cls = "LacePins") : xLink mi mX0_unwork 3 207 := ⟨tblG_m3 71 rfl rfl, tblG_m1 3 rfl rfl, by decide +kernel, by decide, ⟨by decide +kernel, by decide +kernel, by decide +kernel⟩, by rw [h]; exact tblG_m3 68 rfl rfl⟩
set_option maxRecDepth 20000 in
theorem lk0_61 {mi : xM} (h : mi.1.cls = "LacePins$Bench") : xLink mi mX0_goBack 2 61 := ⟨tblG_m3 75 rfl rfl, tblG_m1 3 rfl rfl, by decide +kernel, by decide, ⟨by decide +kernel, by decide +kernel, by decide +kernel⟩, by rw [h]; exact tblG_m3 72 rfl rfl⟩
set_option maxRecDepth 20000 in
theorem lk7_214 {mi : xM} (h : mi.1.cls = "LacePins") : xLink mi mX7_isThread 1 214 := ⟨tblG_m3 88 rfl rfl, tblG_m1 1 rfl rfl, by decide +kernel, by decide, ⟨by decide +kernel, by decide +kernel, by decide +kernel⟩, by rw [h]; exact tblG_m3 85 rfl rfl⟩
set_option maxRecDepth 20000 in
theorem lk7_220 {mi : xM} (h : mi.1.cls = "LacePins") : xLink mi mX7_actsOf 2 220 := ⟨tblG_m3 99 rfl rfl, tblG_m1 1 rfl rfl, by decide +kernel, by decide, ⟨by decide +kernel, by decide +kernel, by decide +kernel⟩, by rw [h]; exact tblG_m3 97 rfl rfl⟩
set_option maxRecDepth 20000 in
theorem lk7_382 {mi : xM} (h : mi.1.cls = "LacePins") : xLink mi mX7_actCount 1 382 := ⟨tblG_m3 34 rfl rfl, tblG_m1 1 rfl rfl, by decide +kernel, by decide, ⟨by decide +kernel, by decide +kernel, by decide +kernel⟩, by rw [h]; exact tblG_m3 100 rfl rfl⟩
set_option maxRecDepth 20000 in
theorem lk7_385 {mi : xM} (h : mi.1.cls = "LacePins") : xLink mi mX7_isCrossAct 2 385 := ⟨tblG_m3 37 rfl rfl, tblG_m1 1 rfl rfl, by decide +kernel, by decide, ⟨by decide +kernel, by decide +kernel, by decide +kernel⟩, by rw [h]; exact tblG_m3 101 rfl rfl⟩
set_option maxRecDepth 20000 in
theorem lk7_226 {mi : xM} (h : mi.1.cls = "LacePins") : xLink mi mX7_think 0 226 := ⟨tblG_m3 113 rfl rfl, tblG_m1 1 rfl rfl, by decide +kernel, by decide, ⟨by decide +kernel, by decide +kernel, by decide +kernel⟩, by rw [h]; exact tblG_m3 110 rfl rfl⟩
set_option maxRecDepth 20000 in
theorem lk7_351 {mi : xM} (h : mi.1.cls = "LacePins") : xLink mi mX6_gather 4 351 := ⟨tblG_m3 117 rfl rfl, tblG_m1 5 rfl rfl, by decide +kernel, by decide, ⟨by decide +kernel, by decide +kernel, by decide +kernel⟩, by rw [h]; exact tblG_m3 114 rfl rfl⟩
set_option maxRecDepth 20000 in
theorem lk6_50 {mi : xM} (h : mi.1.cls = "LacePins$Thought") : xLinkN mi mX7_hasPin 2 50 := ⟨tblG_m2 122 rfl rfl, tblG_m1 1 rfl rfl, by decide +kernel, by decide, ⟨by decide +kernel, by decide +kernel, by decide +kernel⟩, _, by rw [h]; exact tblN_m3 118 rfl rfl⟩
set_option maxRecDepth 20000 in
theorem lk6_62 {mi : xM} (h : mi.1.cls = "LacePins$Thought") : xLink mi mX6_amongLeft 1 62 := ⟨tblG_m3 122 rfl rfl, tblG_m1 5 rfl rfl, by decide +kernel, by decide, ⟨by decide +kernel, by decide +kernel, by decide +kernel⟩, by rw [h]; exact tblG_m3 119 rfl rfl⟩
set_option maxRecDepth 20000 in
theorem lk6_66 {mi : xM} (h : mi.1.cls = "LacePins$Thought") : xLink mi mX6_findSets 0 66 := ⟨tblG_m3 126 rfl rfl, tblG_m1 5 rfl rfl, by decide +kernel, by decide, ⟨by decide +kernel, by decide +kernel, by decide +kernel⟩, by rw [h]; exact tblG_m3 123 rfl rfl⟩
set_option maxRecDepth 20000 in
theorem lk6_69 {mi : xM} (h : mi.1.cls = "LacePins$Thought") : xLink mi mX6_addSet 1 69 := ⟨tblG_m3 130 rfl rfl, tblG_m1 5 rfl rfl, by decide +kernel, by decide, ⟨by decide +kernel, by decide +kernel, by decide +kernel⟩, by rw [h]; exact tblG_m3 127 rfl rfl⟩
set_option maxRecDepth 20000 in
theorem lk6_73 {mi : xM} (h : mi.1.cls = "LacePins$Thought") : xLink mi mX6_comesNext 2 73 := ⟨tblG_m3 134 rfl rfl, tblG_m1 5 rfl rfl, by decide +kernel, by decide, ⟨by decide +kernel, by decide +kernel, by decide +kernel⟩, by rw [h]; exact tblG_m3 131 rfl rfl⟩
set_option maxRecDepth 20000 in
theorem lk7_231 {mi : xM} (h : mi.1.cls = "LacePins") : xLink mi mX6_lawfulOrders 0 231 := ⟨tblG_m3 139 rfl rfl, tblG_m1 5 rfl rfl, by decide +kernel, by decide, ⟨by decide +kernel, by decide +kernel, by decide +kernel⟩, by rw [h]; exact tblG_m3 136 rfl rfl⟩
set_option maxRecDepth 20000 in
theorem lk6_77 {mi : xM} (h : mi.1.cls = "LacePins$Thought") : xLink mi mX6_waysBy 2 77 := ⟨tblG_m3 143 rfl rfl, tblG_m1 5 rfl rfl, by decide +kernel, by decide, ⟨by decide +kernel, by decide +kernel, by decide +kernel⟩, by rw [h]; exact tblG_m3 140 rfl rfl⟩
set_option maxRecDepth 20000 in
theorem lk7_237 {mi : xM} (h : mi.1.cls = "LacePins") : xLink mi mX6_pinOfOrder 2 237 := ⟨tblG_m3 151 rfl rfl, tblG_m1 5 rfl rfl, by decide +kernel, by decide, ⟨by decide +kernel, by decide +kernel, by decide +kernel⟩, by rw [h]; exact tblG_m3 148 rfl rfl⟩
set_option maxRecDepth 20000 in
theorem lk7_244 {mi : xM} (h : mi.1.cls = "LacePins") : xLink mi mX6_leastTravel 1 244 := ⟨tblG_m3 159 rfl rfl, tblG_m1 5 rfl rfl, by decide +kernel, by decide, ⟨by decide +kernel, by decide +kernel, by decide +kernel⟩, by rw [h]; exact tblG_m3 156 rfl rfl⟩
set_option maxRecDepth 20000 in
theorem lk6_81 {mi : xM} (h : mi.1.cls = "LacePins$Thought") : xLink mi mX6_leastFrom 2 81 := ⟨tblG_m3 163 rfl rfl, tblG_m1 5 rfl rfl, by decide +kernel, by decide, ⟨by decide +kernel, by decide +kernel, by decide +kernel⟩, by rw [h]; exact tblG_m3 160 rfl rfl⟩
set_option maxRecDepth 20000 in
theorem lk6_91 {mi : xM} (h : mi.1.cls = "LacePins$Thought") : xLink mi mX6_travelBy 3 91 := ⟨tblG_m3 167 rfl rfl, tblG_m1 5 rfl rfl, by decide +kernel, by decide, ⟨by decide +kernel, by decide +kernel, by decide +kernel⟩, by rw [h]; exact tblG_m3 164 rfl rfl⟩
set_option maxRecDepth 20000 in
theorem lk7_247 {mi : xM} (h : mi.1.cls = "LacePins") : xLink mi mX6_pinOfLeast 2 247 := ⟨tblG_m3 177 rfl rfl, tblG_m1 5 rfl rfl, by decide +kernel, by decide, ⟨by decide +kernel, by decide +kernel, by decide +kernel⟩, by rw [h]; exact tblG_m3 174 rfl rfl⟩
set_option maxRecDepth 20000 in
theorem lk6_98 {mi : xM} (h : mi.1.cls = "LacePins$Thought") : xLink mi mX6_leastTravel 1 98 := ⟨tblG_m3 159 rfl rfl, tblG_m1 5 rfl rfl, by decide +kernel, by decide, ⟨by decide +kernel, by decide +kernel, by decide +kernel⟩, by rw [h]; exact tblG_m3 178 rfl rfl⟩
set_option maxRecDepth 20000 in
theorem lk6_101 {mi : xM} (h : mi.1.cls = "LacePins$Thought") : xLink mi mX6_firstBy 3 101 := ⟨tblG_m3 182 rfl rfl, tblG_m1 5 rfl rfl, by decide +kernel, by decide, ⟨by decide +kernel, by decide +kernel, by decide +kernel⟩, by rw [h]; exact tblG_m3 179 rfl rfl⟩
set_option maxRecDepth 20000 in
theorem lk7_250 {mi : xM} (h : mi.1.cls = "LacePins") : xLink mi mX1_join 1 250 := ⟨tblG_m3 190 rfl rfl, tblG_m1 6 rfl rfl, by decide +kernel, by decide, ⟨by decide +kernel, by decide +kernel, by decide +kernel⟩, by rw [h]; exact tblG_m3 187 rfl rfl⟩
set_option maxRecDepth 20000 in
theorem lk1_37 {mi : xM} (h : mi.1.cls = "LacePins$Joins") : xLink mi mX1_sortOut 1 37 := ⟨tblG_m3 194 rfl rfl, tblG_m1 6 rfl rfl, by decide +kernel, by decide, ⟨by decide +kernel, by decide +kernel, by decide +kernel⟩, by rw [h]; exact tblG_m3 191 rfl rfl⟩
set_option maxRecDepth 20000 in
theorem lk1_52 {mi : xM} (h : mi.1.cls = "LacePins$Joins") : xLink mi mX3_turnsFull 1 52 := ⟨tblG_m3 198 rfl rfl, tblG_m1 2 rfl rfl, by decide +kernel, by decide, ⟨by decide +kernel, by decide +kernel, by decide +kernel⟩, by rw [h]; exact tblG_m3 195 rfl rfl⟩
set_option maxRecDepth 20000 in
theorem lk1_41 {mi : xM} (h : mi.1.cls = "LacePins$Joins") : xLink mi mX1_weigh 0 41 := ⟨tblG_m3 202 rfl rfl, tblG_m1 6 rfl rfl, by decide +kernel, by decide, ⟨by decide +kernel, by decide +kernel, by decide +kernel⟩, by rw [h]; exact tblG_m3 199 rfl rfl⟩
set_option maxRecDepth 20000 in
theorem lk1_78 {mi : xM} (h : mi.1.cls = "LacePins$Joins") : xLink mi mJ_bitCount 1 78 := ⟨tblG_m3 205 rfl rfl, tblG_m1 12 rfl rfl, by decide +kernel, by decide, ⟨by decide +kernel, by decide +kernel, by decide +kernel⟩, by rw [h]; exact tblG_m3 203 rfl rfl⟩
set_option maxRecDepth 20000 in
theorem lk1_83 {mi : xM} (h : mi.1.cls = "LacePins$Joins") : xLink mi mX1_bestOf 2 83 := ⟨tblG_m3 212 rfl rfl, tblG_m1 6 rfl rfl, by decide +kernel, by decide, ⟨by decide +kernel, by decide +kernel, by decide +kernel⟩, by rw [h]; exact tblG_m3 209 rfl rfl⟩
set_option maxRecDepth 20000 in
theorem lk1_75 {mi : xM} (h : mi.1.cls = "LacePins$Joins") : xLink mi mX1_bestFrom 2 75 := ⟨tblG_m3 216 rfl rfl, tblG_m1 6 rfl rfl, by decide +kernel, by decide, ⟨by decide +kernel, by decide +kernel, by decide +kernel⟩, by rw [h]; exact tblG_m3 213 rfl rfl⟩
set_option maxRecDepth 20000 in
theorem lk1_86 {mi : xM} (h : mi.1.cls = "LacePins$Joins") : xLink mi mX1_mayJoin 3 86 := ⟨tblG_m3 220 rfl rfl, tblG_m1 6 rfl rfl, by decide +kernel, by decide, ⟨by decide +kernel, by decide +kernel, by decide +kernel⟩, by rw [h]; exact tblG_m3 217 rfl rfl⟩
set_option maxRecDepth 20000 in
theorem lk1_59 {mi : xM} (h : mi.1.cls = "LacePins$Joins") : xLink mi mX3_rowOfTurn 1 59 := ⟨tblG_m2 162 rfl rfl, tblG_m1 2 rfl rfl, by decide +kernel, by decide, ⟨by decide +kernel, by decide +kernel, by decide +kernel⟩, by rw [h]; exact tblG_m3 221 rfl rfl⟩
set_option maxRecDepth 20000 in
theorem lk1_90 {mi : xM} (h : mi.1.cls = "LacePins$Joins") : xLink mi mX1_worthOf 3 90 := ⟨tblG_m3 225 rfl rfl, tblG_m1 6 rfl rfl, by decide +kernel, by decide, ⟨by decide +kernel, by decide +kernel, by decide +kernel⟩, by rw [h]; exact tblG_m3 222 rfl rfl⟩
set_option maxRecDepth 20000 in
theorem lk1_71 {mi : xM} (h : mi.1.cls = "LacePins$Joins") : xLink mi mX1_difference 2 71 := ⟨tblG_m3 229 rfl rfl, tblG_m1 6 rfl rfl, by decide +kernel, by decide, ⟨by decide +kernel, by decide +kernel, by decide +kernel⟩, by rw [h]; exact tblG_m3 226 rfl rfl⟩
set_option maxRecDepth 20000 in
theorem lk1_63 {mi : xM} (h : mi.1.cls = "LacePins$Joins") : xLink mi mX3_slotOfTurn 1 63 := ⟨tblG_m2 159 rfl rfl, tblG_m1 2 rfl rfl, by decide +kernel, by decide, ⟨by decide +kernel, by decide +kernel, by decide +kernel⟩, by rw [h]; exact tblG_m3 230 rfl rfl⟩
set_option maxRecDepth 20000 in
theorem lk1_44 {mi : xM} (h : mi.1.cls = "LacePins$Joins") : xLink mi mX1_choose 0 44 := ⟨tblG_m3 236 rfl rfl, tblG_m1 6 rfl rfl, by decide +kernel, by decide, ⟨by decide +kernel, by decide +kernel, by decide +kernel⟩, by rw [h]; exact tblG_m3 233 rfl rfl⟩
set_option maxRecDepth 20000 in
theorem lk1_97 {mi : xM} (h : mi.1.cls = "LacePins$Joins") : xLink mi mX1_firstOut 2 97 := ⟨tblG_m4 0 rfl rfl, tblG_m1 6 rfl rfl, by decide +kernel, by decide, ⟨by decide +kernel, by decide +kernel, by decide +kernel⟩, by rw [h]; exact tblG_m3 237 rfl rfl⟩
set_option maxRecDepth 20000 in
theorem lk7_256 {mi : xM} (h : mi.1.cls = "LacePins") : xLink mi mJ_bitCount 1 256 := ⟨tblG_m3 205 rfl rfl, tblG_m1 12 rfl rfl, by decide +kernel, by decide, ⟨by decide +kernel, by decide +kernel, by decide +kernel⟩, by rw [h]; exact tblG_m4 1 rfl rfl⟩
set_option maxRecDepth 20000 in
theorem lk7_273 {mi : xM} (h : mi.1.cls = "LacePins") : xLink mi mX7_slotAndRow 1 273 := ⟨tblG_m4 8 rfl rfl, tblG_m1 1 rfl rfl, by decide +kernel, by decide, ⟨by decide +kernel, by decide +kernel, by decide +kernel⟩, by rw [h]; exact tblG_m4 6 rfl rfl⟩
set_option maxRecDepth 20000 in
theorem lk7_355 {mi : xM} (h : mi.1.cls = "LacePins") : xLink mi mX3_slotOfTurn 1 355 := ⟨tblG_m2 159 rfl rfl, tblG_m1 2 rfl rfl, by decide +kernel, by decide, ⟨by decide +kernel, by decide +kernel, by decide +kernel⟩, by rw [h]; exact tblG_m4 9 rfl rfl⟩
set_option maxRecDepth 20000 in
theorem lk7_358 {mi : xM} (h : mi.1.cls = "LacePins") : xLink mi mX3_rowOfTurn 1 358 := ⟨tblG_m2 162 rfl rfl, tblG_m1 2 rfl rfl, by decide +kernel, by decide, ⟨by decide +kernel, by decide +kernel, by decide +kernel⟩, by rw [h]; exact tblG_m4 10 rfl rfl⟩
set_option maxRecDepth 20000 in
theorem lk7_282 {mi : xM} (h : mi.1.cls = "LacePins") : xLink mi mX7_drawPin 1 282 := ⟨tblG_m4 18 rfl rfl, tblG_m1 1 rfl rfl, by decide +kernel, by decide, ⟨by decide +kernel, by decide +kernel, by decide +kernel⟩, by rw [h]; exact tblG_m4 15 rfl rfl⟩
set_option maxRecDepth 20000 in
theorem lk7_285 {mi : xM} (h : mi.1.cls = "LacePins") : xLink mi mX4_isList 1 285 := ⟨tblG_m4 30 rfl rfl, tblG_m1 8 rfl rfl, by decide +kernel, by decide, ⟨by decide +kernel, by decide +kernel, by decide +kernel⟩, by rw [h]; exact tblG_m4 27 rfl rfl⟩
set_option maxRecDepth 20000 in
theorem lk7_288 {mi : xM} (h : mi.1.cls = "LacePins") : xLink mi mX4_holds 1 288 := ⟨tblG_m4 34 rfl rfl, tblG_m1 8 rfl rfl, by decide +kernel, by decide, ⟨by decide +kernel, by decide +kernel, by decide +kernel⟩, by rw [h]; exact tblG_m4 31 rfl rfl⟩
set_option maxRecDepth 20000 in
theorem lk7_294 {mi : xM} (h : mi.1.cls = "LacePins") : xLink mi mX4_put 3 294 := ⟨tblG_m4 38 rfl rfl, tblG_m1 8 rfl rfl, by decide +kernel, by decide, ⟨by decide +kernel, by decide +kernel, by decide +kernel⟩, by rw [h]; exact tblG_m4 35 rfl rfl⟩
set_option maxRecDepth 20000 in
theorem lk7_298 {mi : xM} (h : mi.1.cls = "LacePins") : xLink mi mX7_wouldBeSeen 4 298 := ⟨tblG_m4 46 rfl rfl, tblG_m1 1 rfl rfl, by decide +kernel, by decide, ⟨by decide +kernel, by decide +kernel, by decide +kernel⟩, by rw [h]; exact tblG_m4 43 rfl rfl⟩
set_option maxRecDepth 20000 in
theorem lk7_329 {mi : xM} (h : mi.1.cls = "LacePins") : xLink mi mX4_at 2 329 := ⟨tblG_m4 50 rfl rfl, tblG_m1 8 rfl rfl, by decide +kernel, by decide, ⟨by decide +kernel, by decide +kernel, by decide +kernel⟩, by rw [h]; exact tblG_m4 47 rfl rfl⟩
set_option maxRecDepth 20000 in
theorem lk7_302 {mi : xM} (h : mi.1.cls = "LacePins") : xLink mi mX5_append 1 302 := ⟨tblG_m4 58 rfl rfl, tblG_m1 7 rfl rfl, by decide +kernel, by decide, ⟨by decide +kernel, by decide +kernel, by decide +kernel⟩, by rw [h]; exact tblG_m4 55 rfl rfl⟩
set_option maxRecDepth 20000 in
theorem lk7_308 {mi : xM} (h : mi.1.cls = "LacePins") : xLink mi mX5_read 0 308 := ⟨tblG_m4 70 rfl rfl, tblG_m1 7 rfl rfl, by decide +kernel, by decide, ⟨by decide +kernel, by decide +kernel, by decide +kernel⟩, by rw [h]; exact tblG_m4 67 rfl rfl⟩
set_option maxRecDepth 20000 in
theorem lk5_40 {mi : xM} (h : mi.1.cls = "LacePins$Tape") : xLink mi mX5_readPart 1 40 := ⟨tblG_m4 74 rfl rfl, tblG_m1 7 rfl rfl, by decide +kernel, by decide, ⟨by decide +kernel, by decide +kernel, by decide +kernel⟩, by rw [h]; exact tblG_m4 71 rfl rfl⟩
set_option maxRecDepth 20000 in
theorem lk5_47 {mi : xM} (h : mi.1.cls = "LacePins$Tape") : xLink mi mX5_readKind 0 47 := ⟨tblG_m4 78 rfl rfl, tblG_m1 7 rfl rfl, by decide +kernel, by decide, ⟨by decide +kernel, by decide +kernel, by decide +kernel⟩, by rw [h]; exact tblG_m4 75 rfl rfl⟩
set_option maxRecDepth 20000 in
theorem lk5_57 {mi : xM} (h : mi.1.cls = "LacePins$Tape") : xLink mi mX5_skipWord 0 57 := ⟨tblG_m4 82 rfl rfl, tblG_m1 7 rfl rfl, by decide +kernel, by decide, ⟨by decide +kernel, by decide +kernel, by decide +kernel⟩, by rw [h]; exact tblG_m4 79 rfl rfl⟩
set_option maxRecDepth 20000 in
theorem lk5_62 {mi : xM} (h : mi.1.cls = "LacePins$Tape") : xLink mi mX5_isWord 2 62 := ⟨tblG_m4 87 rfl rfl, tblG_m1 7 rfl rfl, by decide +kernel, by decide, ⟨by decide +kernel, by decide +kernel, by decide +kernel⟩, by rw [h]; exact tblG_m4 84 rfl rfl⟩
set_option maxRecDepth 20000 in
theorem lk5_51 {mi : xM} (h : mi.1.cls = "LacePins$Tape") : xLink mi mX5_readNumber 0 51 := ⟨tblG_m4 142 rfl rfl, tblG_m1 7 rfl rfl, by decide +kernel, by decide, ⟨by decide +kernel, by decide +kernel, by decide +kernel⟩, by rw [h]; exact tblG_m4 139 rfl rfl⟩
set_option maxRecDepth 20000 in
theorem lk5_44 {mi : xM} (h : mi.1.cls = "LacePins$Tape") : xLink mi mX5_expect 1 44 := ⟨tblG_m4 146 rfl rfl, tblG_m1 7 rfl rfl, by decide +kernel, by decide, ⟨by decide +kernel, by decide +kernel, by decide +kernel⟩, by rw [h]; exact tblG_m4 143 rfl rfl⟩
set_option maxRecDepth 20000 in
theorem lk5_86 {mi : xM} (h : mi.1.cls = "LacePins$Tape") : xLink mi mX5_isFigureHere 0 86 := ⟨tblG_m4 150 rfl rfl, tblG_m1 7 rfl rfl, by decide +kernel, by decide, ⟨by decide +kernel, by decide +kernel, by decide +kernel⟩, by rw [h]; exact tblG_m4 147 rfl rfl⟩
set_option maxRecDepth 20000 in
theorem lk5_90 {mi : xM} (h : mi.1.cls = "LacePins$Tape") : xLink mi mX5_readFigure 0 90 := ⟨tblG_m4 154 rfl rfl, tblG_m1 7 rfl rfl, by decide +kernel, by decide, ⟨by decide +kernel, by decide +kernel, by decide +kernel⟩, by rw [h]; exact tblG_m4 151 rfl rfl⟩
set_option maxRecDepth 20000 in
theorem lk5_54 {mi : xM} (h : mi.1.cls = "LacePins$Tape") : xLink mi mX5_readStitch 0 54 := ⟨tblG_m4 158 rfl rfl, tblG_m1 7 rfl rfl, by decide +kernel, by decide, ⟨by decide +kernel, by decide +kernel, by decide +kernel⟩, by rw [h]; exact tblG_m4 155 rfl rfl⟩
set_option maxRecDepth 20000 in
theorem lk5_72 {mi : xM} (h : mi.1.cls = "LacePins$Tape") : xLink mi mX5_nameOf 1 72 := ⟨tblG_m4 161 rfl rfl, tblG_m1 7 rfl rfl, by decide +kernel, by decide, ⟨by decide +kernel, by decide +kernel, by decide +kernel⟩, by rw [h]; exact tblG_m4 159 rfl rfl⟩
set_option maxRecDepth 20000 in
theorem lk7_314 {mi : xM} (h : mi.1.cls = "LacePins") : xLink mi mX3_copyFrom 1 314 := ⟨tblG_m4 170 rfl rfl, tblG_m1 2 rfl rfl, by decide +kernel, by decide, ⟨by decide +kernel, by decide +kernel, by decide +kernel⟩, by rw [h]; exact tblG_m4 167 rfl rfl⟩
set_option maxRecDepth 20000 in
theorem lk7_320 {mi : xM} (h : mi.1.cls = "LacePins") : xLink mi mX7_tellPart 1 320 := ⟨tblG_m4 177 rfl rfl, tblG_m1 1 rfl rfl, by decide +kernel, by decide, ⟨by decide +kernel, by decide +kernel, by decide +kernel⟩, by rw [h]; exact tblG_m4 174 rfl rfl⟩
set_option maxRecDepth 20000 in
theorem lk7_373 {mi : xM} (h : mi.1.cls = "LacePins") : xLink mi mX7_pin 3 373 := ⟨tblG_m2 78 rfl rfl, tblG_m1 1 rfl rfl, by decide +kernel, by decide, ⟨by decide +kernel, by decide +kernel, by decide +kernel⟩, by rw [h]; exact tblG_m4 178 rfl rfl⟩
set_option maxRecDepth 20000 in
theorem lk7_376 {mi : xM} (h : mi.1.cls = "LacePins") : xLink mi mX7_turn 2 376 := ⟨tblG_m2 178 rfl rfl, tblG_m1 1 rfl rfl, by decide +kernel, by decide, ⟨by decide +kernel, by decide +kernel, by decide +kernel⟩, by rw [h]; exact tblG_m4 179 rfl rfl⟩
set_option maxRecDepth 20000 in
theorem lk7_379 {mi : xM} (h : mi.1.cls = "LacePins") : xLink mi mX7_fill 2 379 := ⟨tblG_m2 166 rfl rfl, tblG_m1 1 rfl rfl, by decide +kernel, by decide, ⟨by decide +kernel, by decide +kernel, by decide +kernel⟩, by rw [h]; exact tblG_m4 180 rfl rfl⟩
set_option maxRecDepth 20000 in
theorem lk7_323 {mi : xM} (h : mi.1.cls = "LacePins") : xLink mi mX4_begin 2 323 := ⟨tblG_m4 189 rfl rfl, tblG_m1 8 rfl rfl, by decide +kernel, by decide, ⟨by decide +kernel, by decide +kernel, by decide +kernel⟩, by rw [h]; exact tblG_m4 186 rfl rfl⟩
set_option maxRecDepth 20000 in
theorem lk4_19 {mi : xM} (h : mi.1.cls = "LacePins$Rows") : xLink mi mX4_put 3 19 := ⟨tblG_m4 38 rfl rfl, tblG_m1 8 rfl rfl, by decide +kernel, by decide, ⟨by decide +kernel, by decide +kernel, by decide +kernel⟩, by rw [h]; exact tblG_m4 190 rfl rfl⟩
set_option maxRecDepth 20000 in
theorem lk7_326 {mi : xM} (h : mi.1.cls = "LacePins") : xLink mi mX4_hasPlace 2 326 := ⟨tblG_m4 198 rfl rfl, tblG_m1 8 rfl rfl, by decide +kernel, by decide, ⟨by decide +kernel, by decide +kernel, by decide +kernel⟩, by rw [h]; exact tblG_m4 195 rfl rfl⟩
set_option maxRecDepth 20000 in
theorem lk7_335 {mi : xM} (h : mi.1.cls = "LacePins") : xLink mi mX3_turnsInto 1 335 := ⟨tblG_m4 210 rfl rfl, tblG_m1 2 rfl rfl, by decide +kernel, by decide, ⟨by decide +kernel, by decide +kernel, by decide +kernel⟩, by rw [h]; exact tblG_m4 207 rfl rfl⟩
set_option maxRecDepth 20000 in
theorem lk3_73 {mi : xM} (h : mi.1.cls = "LacePins$Pattern") : xLink mi mX3_turnsFull 1 73 := ⟨tblG_m3 198 rfl rfl, tblG_m1 2 rfl rfl, by decide +kernel, by decide, ⟨by decide +kernel, by decide +kernel, by decide +kernel⟩, by rw [h]; exact tblG_m4 211 rfl rfl⟩
set_option maxRecDepth 20000 in
theorem lk7_339 {mi : xM} (h : mi.1.cls = "LacePins") : xLink mi mX0_copyFrom 1 339 := ⟨tblG_m4 219 rfl rfl, tblG_m1 3 rfl rfl, by decide +kernel, by decide, ⟨by decide +kernel, by decide +kernel, by decide +kernel⟩, by rw [h]; exact tblG_m4 216 rfl rfl⟩
set_option maxRecDepth 20000 in
theorem lk8_75 {mi : xM} (h : mi.1.cls = "LacePinsModel") : xLink mi mX8_starts 1 75 := ⟨tblG_m4 235 rfl rfl, tblG_m1 9 rfl rfl, by decide +kernel, by decide, ⟨by decide +kernel, by decide +kernel, by decide +kernel⟩, by rw [h]; exact tblG_m4 232 rfl rfl⟩
set_option maxRecDepth 20000 in
theorem lk8_79 {mi : xM} (h : mi.1.cls = "LacePinsModel") : xLink mi mX8_isIn 3 79 := ⟨tblG_m5 96 rfl rfl, tblG_m1 9 rfl rfl, by decide +kernel, by decide, ⟨by decide +kernel, by decide +kernel, by decide +kernel⟩, by rw [h]; exact tblG_m5 94 rfl rfl⟩
set_option maxRecDepth 20000 in
theorem lk8_91 {mi : xM} (h : mi.1.cls = "LacePinsModel") : xLink mi mX8_shares 2 91 := ⟨tblG_m5 106 rfl rfl, tblG_m1 9 rfl rfl, by decide +kernel, by decide, ⟨by decide +kernel, by decide +kernel, by decide +kernel⟩, by rw [h]; exact tblG_m5 103 rfl rfl⟩
set_option maxRecDepth 20000 in
theorem lk8_95 {mi : xM} (h : mi.1.cls = "LacePinsModel") : xLink mi mX8_isPin 1 95 := ⟨tblG_m5 118 rfl rfl, tblG_m1 9 rfl rfl, by decide +kernel, by decide, ⟨by decide +kernel, by decide +kernel, by decide +kernel⟩, by rw [h]; exact tblG_m5 115 rfl rfl⟩
set_option maxRecDepth 20000 in
theorem lk8_99 {mi : xM} (h : mi.1.cls = "LacePinsModel") : xLink mi mX8_becomes 2 99 := ⟨tblG_m5 122 rfl rfl, tblG_m1 9 rfl rfl, by decide +kernel, by decide, ⟨by decide +kernel, by decide +kernel, by decide +kernel⟩, by rw [h]; exact tblG_m5 119 rfl rfl⟩
set_option maxRecDepth 20000 in
theorem lk8_103 {mi : xM} (h : mi.1.cls = "LacePinsModel") : xLink mi mX8_isSlot 1 103 := ⟨tblG_m5 130 rfl rfl, tblG_m1 9 rfl rfl, by decide +kernel, by decide, ⟨by decide +kernel, by decide +kernel, by decide +kernel⟩, by rw [h]; exact tblG_m5 127 rfl rfl⟩
set_option maxRecDepth 20000 in
theorem lk8_106 {mi : xM} (h : mi.1.cls = "LacePinsModel") : xLink mi mX8_isFilled 2 106 := ⟨tblG_m5 142 rfl rfl, tblG_m1 9 rfl rfl, by decide +kernel, by decide, ⟨by decide +kernel, by decide +kernel, by decide +kernel⟩, by rw [h]; exact tblG_m5 139 rfl rfl⟩
set_option maxRecDepth 20000 in
theorem lk8_109 {mi : xM} (h : mi.1.cls = "LacePinsModel") : xLink mi mX8_hasPin 3 109 := ⟨tblG_m5 154 rfl rfl, tblG_m1 9 rfl rfl, by decide +kernel, by decide, ⟨by decide +kernel, by decide +kernel, by decide +kernel⟩, by rw [h]; exact tblG_m5 151 rfl rfl⟩
set_option maxRecDepth 20000 in
theorem lk8_113 {mi : xM} (h : mi.1.cls = "LacePinsModel") : xLink mi mX8_hasTurn 1 113 := ⟨tblG_m5 158 rfl rfl, tblG_m1 9 rfl rfl, by decide +kernel, by decide, ⟨by decide +kernel, by decide +kernel, by decide +kernel⟩, by rw [h]; exact tblG_m5 155 rfl rfl⟩
set_option maxRecDepth 20000 in
theorem lk8_136 {mi : xM} (h : mi.1.cls = "LacePinsModel") : xLink mi mX8_findsAll 0 136 := ⟨tblG_m5 166 rfl rfl, tblG_m1 9 rfl rfl, by decide +kernel, by decide, ⟨by decide +kernel, by decide +kernel, by decide +kernel⟩, by rw [h]; exact tblG_m5 163 rfl rfl⟩
set_option maxRecDepth 20000 in
theorem lk8_124 {mi : xM} (h : mi.1.cls = "LacePinsModel") : xLink mi mX8_finds 1 124 := ⟨tblG_m5 170 rfl rfl, tblG_m1 9 rfl rfl, by decide +kernel, by decide, ⟨by decide +kernel, by decide +kernel, by decide +kernel⟩, by rw [h]; exact tblG_m5 167 rfl rfl⟩
set_option maxRecDepth 20000 in
theorem lk8_116 {mi : xM} (h : mi.1.cls = "LacePinsModel") : xLink mi mX8_ahead 2 116 := ⟨tblG_m5 174 rfl rfl, tblG_m1 9 rfl rfl, by decide +kernel, by decide, ⟨by decide +kernel, by decide +kernel, by decide +kernel⟩, by rw [h]; exact tblG_m5 171 rfl rfl⟩
set_option maxRecDepth 20000 in
theorem lk8_127 {mi : xM} (h : mi.1.cls = "LacePinsModel") : xLink mi mX8_lacks 1 127 := ⟨tblG_m5 179 rfl rfl, tblG_m1 9 rfl rfl, by decide +kernel, by decide, ⟨by decide +kernel, by decide +kernel, by decide +kernel⟩, by rw [h]; exact tblG_m5 176 rfl rfl⟩
set_option maxRecDepth 20000 in
theorem lk8_141 {mi : xM} (h : mi.1.cls = "LacePinsModel") : xLink mi mX8_isReady 1 141 := ⟨tblG_m5 192 rfl rfl, tblG_m1 9 rfl rfl, by decide +kernel, by decide, ⟨by decide +kernel, by decide +kernel, by decide +kernel⟩, by rw [h]; exact tblG_m5 189 rfl rfl⟩
set_option maxRecDepth 20000 in
theorem lk8_130 {mi : xM} (h : mi.1.cls = "LacePinsModel") : xLink mi mX8_done 0 130 := ⟨tblG_m5 196 rfl rfl, tblG_m1 9 rfl rfl, by decide +kernel, by decide, ⟨by decide +kernel, by decide +kernel, by decide +kernel⟩, by rw [h]; exact tblG_m5 193 rfl rfl⟩
set_option maxRecDepth 20000 in
theorem lk8_158 {mi : xM} (h : mi.1.cls = "LacePinsModel") : xLink mi mX8_works 1 158 := ⟨tblG_m5 209 rfl rfl, tblG_m1 9 rfl rfl, by decide +kernel, by decide, ⟨by decide +kernel, by decide +kernel, by decide +kernel⟩, by rw [h]; exact tblG_m5 206 rfl rfl⟩
set_option maxRecDepth 20000 in
theorem lk8_155 {mi : xM} (h : mi.1.cls = "LacePinsModel") : xLink mi mX8_stitches 3 155 := ⟨tblG_m5 213 rfl rfl, tblG_m1 9 rfl rfl, by decide +kernel, by decide, ⟨by decide +kernel, by decide +kernel, by decide +kernel⟩, by rw [h]; exact tblG_m5 210 rfl rfl⟩
set_option maxRecDepth 20000 in
theorem lk8_148 {mi : xM} (h : mi.1.cls = "LacePinsModel") : xLink mi mX8_crosses 2 148 := ⟨tblG_m5 217 rfl rfl, tblG_m1 9 rfl rfl, by decide +kernel, by decide, ⟨by decide +kernel, by decide +kernel, by decide +kernel⟩, by rw [h]; exact tblG_m5 214 rfl rfl⟩
set_option maxRecDepth 20000 in
theorem lk8_144 {mi : xM} (h : mi.1.cls = "LacePinsModel") : xLink mi mX8_goes 3 144 := ⟨tblG_m5 221 rfl rfl, tblG_m1 9 rfl rfl, by decide +kernel, by decide, ⟨by decide +kernel, by decide +kernel, by decide +kernel⟩, by rw [h]; exact tblG_m5 218 rfl rfl⟩
set_option maxRecDepth 20000 in
theorem lk8_152 {mi : xM} (h : mi.1.cls = "LacePinsModel") : xLink mi mX8_twists 2 152 := ⟨tblG_m5 225 rfl rfl, tblG_m1 9 rfl rfl, by decide +kernel, by decide, ⟨by decide +kernel, by decide +kernel, by decide +kernel⟩, by rw [h]; exact tblG_m5 222 rfl rfl⟩
set_option maxRecDepth 20000 in
theorem lk8_161 {mi : xM} (h : mi.1.cls = "LacePinsModel") : xLink mi mX8_isThread 1 161 := ⟨tblG_m6 5 rfl rfl, tblG_m1 9 rfl rfl, by decide +kernel, by decide, ⟨by decide +kernel, by decide +kernel, by decide +kernel⟩, by rw [h]; exact tblG_m6 2 rfl rfl⟩
set_option maxRecDepth 20000 in
theorem lk8_183 {mi : xM} (h : mi.1.cls = "LacePinsModel") : xLink mi mX8_areFew 0 183 := ⟨tblG_m6 25 rfl rfl, tblG_m1 9 rfl rfl, by decide +kernel, by decide, ⟨by decide +kernel, by decide +kernel, by decide +kernel⟩, by rw [h]; exact tblG_m6 22 rfl rfl⟩
set_option maxRecDepth 20000 in
theorem lk8_188 {mi : xM} (h : mi.1.cls = "LacePinsModel") : xLink mi mX8_goesBack 0 188 := ⟨tblG_m6 30 rfl rfl, tblG_m1 9 rfl rfl, by decide +kernel, by decide, ⟨by decide +kernel, by decide +kernel, by decide +kernel⟩, by rw [h]; exact tblG_m6 27 rfl rfl⟩
set_option maxRecDepth 20000 in
theorem lk8_168 {mi : xM} (h : mi.1.cls = "LacePinsModel") : xLink mi mX8_oneLacks 0 168 := ⟨tblG_m6 34 rfl rfl, tblG_m1 9 rfl rfl, by decide +kernel, by decide, ⟨by decide +kernel, by decide +kernel, by decide +kernel⟩, by rw [h]; exact tblG_m6 31 rfl rfl⟩
set_option maxRecDepth 20000 in
theorem lk8_173 {mi : xM} (h : mi.1.cls = "LacePinsModel") : xLink mi mX8_mayCome 2 173 := ⟨tblG_m6 39 rfl rfl, tblG_m1 9 rfl rfl, by decide +kernel, by decide, ⟨by decide +kernel, by decide +kernel, by decide +kernel⟩, by rw [h]; exact tblG_m6 36 rfl rfl⟩
set_option maxRecDepth 20000 in
theorem lk8_195 {mi : xM} (h : mi.1.cls = "LacePinsModel") : xLink mi mX8_leastFrom 2 195 := ⟨tblG_m6 55 rfl rfl, tblG_m1 9 rfl rfl, by decide +kernel, by decide, ⟨by decide +kernel, by decide +kernel, by decide +kernel⟩, by rw [h]; exact tblG_m6 52 rfl rfl⟩
set_option maxRecDepth 20000 in
theorem lk8_191 {mi : xM} (h : mi.1.cls = "LacePinsModel") : xLink mi mX8_farFrom 3 191 := ⟨tblG_m6 59 rfl rfl, tblG_m1 9 rfl rfl, by decide +kernel, by decide, ⟨by decide +kernel, by decide +kernel, by decide +kernel⟩, by rw [h]; exact tblG_m6 56 rfl rfl⟩
set_option maxRecDepth 20000 in
theorem lk8_217 {mi : xM} (h : mi.1.cls = "LacePinsModel") : xLink mi mX8_findsPairs 0 217 := ⟨tblG_m6 71 rfl rfl, tblG_m1 9 rfl rfl, by decide +kernel, by decide, ⟨by decide +kernel, by decide +kernel, by decide +kernel⟩, by rw [h]; exact tblG_m6 68 rfl rfl⟩
set_option maxRecDepth 20000 in
theorem lk8_214 {mi : xM} (h : mi.1.cls = "LacePinsModel") : xLink mi mX8_findsTurns 0 214 := ⟨tblG_m6 75 rfl rfl, tblG_m1 9 rfl rfl, by decide +kernel, by decide, ⟨by decide +kernel, by decide +kernel, by decide +kernel⟩, by rw [h]; exact tblG_m6 72 rfl rfl⟩
set_option maxRecDepth 20000 in
theorem lk8_210 {mi : xM} (h : mi.1.cls = "LacePinsModel") : xLink mi mX8_joins 4 210 := ⟨tblG_m6 79 rfl rfl, tblG_m1 9 rfl rfl, by decide +kernel, by decide, ⟨by decide +kernel, by decide +kernel, by decide +kernel⟩, by rw [h]; exact tblG_m6 76 rfl rfl⟩
set_option maxRecDepth 20000 in
theorem lk8_225 {mi : xM} (h : mi.1.cls = "LacePinsModel") : xLink mi mX8_isList 1 225 := ⟨tblG_m6 98 rfl rfl, tblG_m1 9 rfl rfl, by decide +kernel, by decide, ⟨by decide +kernel, by decide +kernel, by decide +kernel⟩, by rw [h]; exact tblG_m6 96 rfl rfl⟩
set_option maxRecDepth 20000 in
theorem lk8_265 {mi : xM} (h : mi.1.cls = "LacePinsModel") : xLink mi mX8_reads 1 265 := ⟨tblG_m6 120 rfl rfl, tblG_m1 9 rfl rfl, by decide +kernel, by decide, ⟨by decide +kernel, by decide +kernel, by decide +kernel⟩, by rw [h]; exact tblG_m6 117 rfl rfl⟩
set_option maxRecDepth 20000 in
theorem lk8_249 {mi : xM} (h : mi.1.cls = "LacePinsModel") : xLink mi mX8_word 2 249 := ⟨tblG_m6 124 rfl rfl, tblG_m1 9 rfl rfl, by decide +kernel, by decide, ⟨by decide +kernel, by decide +kernel, by decide +kernel⟩, by rw [h]; exact tblG_m6 121 rfl rfl⟩
set_option maxRecDepth 20000 in
theorem lk8_239 {mi : xM} (h : mi.1.cls = "LacePinsModel") : xLink mi mX8_here 0 239 := ⟨tblG_m6 128 rfl rfl, tblG_m1 9 rfl rfl, by decide +kernel, by decide, ⟨by decide +kernel, by decide +kernel, by decide +kernel⟩, by rw [h]; exact tblG_m6 125 rfl rfl⟩
set_option maxRecDepth 20000 in
theorem lk8_243 {mi : xM} (h : mi.1.cls = "LacePinsModel") : xLink mi mX8_fails 1 243 := ⟨tblG_m6 132 rfl rfl, tblG_m1 9 rfl rfl, by decide +kernel, by decide, ⟨by decide +kernel, by decide +kernel, by decide +kernel⟩, by rw [h]; exact tblG_m6 129 rfl rfl⟩
set_option maxRecDepth 20000 in
theorem lk8_252 {mi : xM} (h : mi.1.cls = "LacePinsModel") : xLink mi mX8_figures 0 252 := ⟨tblG_m6 136 rfl rfl, tblG_m1 9 rfl rfl, by decide +kernel, by decide, ⟨by decide +kernel, by decide +kernel, by decide +kernel⟩, by rw [h]; exact tblG_m6 133 rfl rfl⟩
set_option maxRecDepth 20000 in
theorem lk8_246 {mi : xM} (h : mi.1.cls = "LacePinsModel") : xLink mi mX8_blank 0 246 := ⟨tblG_m6 140 rfl rfl, tblG_m1 9 rfl rfl, by decide +kernel, by decide, ⟨by decide +kernel, by decide +kernel, by decide +kernel⟩, by rw [h]; exact tblG_m6 137 rfl rfl⟩
set_option maxRecDepth 20000 in
theorem lk8_268 {mi : xM} (h : mi.1.cls = "LacePinsModel") : xLink mi mX8_copies 2 268 := ⟨tblG_m6 143 rfl rfl, tblG_m1 9 rfl rfl, by decide +kernel, by decide, ⟨by decide +kernel, by decide +kernel, by decide +kernel⟩, by rw [h]; exact tblG_m6 141 rfl rfl⟩
set_option maxRecDepth 20000 in
theorem lk8_272 {mi : xM} (h : mi.1.cls = "LacePinsModel") : xLink mi mX8_tells 1 272 := ⟨tblG_m6 147 rfl rfl, tblG_m1 9 rfl rfl, by decide +kernel, by decide, ⟨by decide +kernel, by decide +kernel, by decide +kernel⟩, by rw [h]; exact tblG_m6 144 rfl rfl⟩
set_option maxRecDepth 20000 in
theorem lk8_255 {mi : xM} (h : mi.1.cls = "LacePinsModel") : xLink mi mX8_pin 3 255 := ⟨tblG_m5 100 rfl rfl, tblG_m1 9 rfl rfl, by decide +kernel, by decide, ⟨by decide +kernel, by decide +kernel, by decide +kernel⟩, by rw [h]; exact tblG_m6 148 rfl rfl⟩
set_option maxRecDepth 20000 in
theorem lk8_258 {mi : xM} (h : mi.1.cls = "LacePinsModel") : xLink mi mX8_turn 2 258 := ⟨tblG_m5 134 rfl rfl, tblG_m1 9 rfl rfl, by decide +kernel, by decide, ⟨by decide +kernel, by decide +kernel, by decide +kernel⟩, by rw [h]; exact tblG_m6 149 rfl rfl⟩
set_option maxRecDepth 20000 in
theorem lk8_261 {mi : xM} (h : mi.1.cls = "LacePinsModel") : xLink mi mX8_fill 2 261 := ⟨tblG_m5 126 rfl rfl, tblG_m1 9 rfl rfl, by decide +kernel, by decide, ⟨by decide +kernel, by decide +kernel, by decide +kernel⟩, by rw [h]; exact tblG_m6 150 rfl rfl⟩
set_option maxRecDepth 20000 in
theorem im_X0_begin : Cond.instanceMethod mX0_begin.1 ∈ tblG := tblG_m2 28 rfl rfl
set_option maxRecDepth 20000 in
theorem sl_X0_begin : Cond.selects mX0_begin.1.cls mX0_begin.1 mX0_begin.1 ∈ tblG := tblG_m2 29 rfl rfl
set_option maxRecDepth 20000 in
theorem im_X0_copyFrom : Cond.instanceMethod mX0_copyFrom.1 ∈ tblG := tblG_m4 217 rfl rfl
set_option maxRecDepth 20000 in
theorem sl_X0_copyFrom : Cond.selects mX0_copyFrom.1.cls mX0_copyFrom.1 mX0_copyFrom.1 ∈ tblG := tblG_m4 218 rfl rfl
set_option maxRecDepth 20000 in
theorem im_X0_isDone : Cond.instanceMethod mX0_isDone.1 ∈ tblG := tblG_m2 117 rfl rfl
set_option maxRecDepth 20000 in
theorem sl_X0_isDone : Cond.selects mX0_isDone.1.cls mX0_isDone.1 mX0_isDone.1 ∈ tblG := tblG_m2 118 rfl rfl
set_option maxRecDepth 20000 in
theorem im_X0_lastWorked : Cond.instanceMethod mX0_lastWorked.1 ∈ tblG := tblG_m3 65 rfl rfl
set_option maxRecDepth 20000 in
theorem sl_X0_lastWorked : Cond.selects mX0_lastWorked.1.cls mX0_lastWorked.1 mX0_lastWorked.1 ∈ tblG := tblG_m3 66 rfl rfl
set_option maxRecDepth 20000 in
theorem im_X0_workPin : Cond.instanceMethod mX0_workPin.1 ∈ tblG := tblG_m3 29 rfl rfl
set_option maxRecDepth 20000 in
theorem sl_X0_workPin : Cond.selects mX0_workPin.1.cls mX0_workPin.1 mX0_workPin.1 ∈ tblG := tblG_m3 30 rfl rfl
set_option maxRecDepth 20000 in
theorem im_X0_unwork : Cond.instanceMethod mX0_unwork.1 ∈ tblG := tblG_m3 69 rfl rfl
set_option maxRecDepth 20000 in
theorem sl_X0_unwork : Cond.selects mX0_unwork.1.cls mX0_unwork.1 mX0_unwork.1 ∈ tblG := tblG_m3 70 rfl rfl
set_option maxRecDepth 20000 in
theorem im_X0_goOver : Cond.instanceMethod mX0_goOver.1 ∈ tblG := tblG_m3 40 rfl rfl
set_option maxRecDepth 20000 in
theorem sl_X0_goOver : Cond.selects mX0_goOver.1.cls mX0_goOver.1 mX0_goOver.1 ∈ tblG := tblG_p1 13 rfl rfl
set_option maxRecDepth 20000 in
theorem im_X0_goBack : Cond.instanceMethod mX0_goBack.1 ∈ tblG := tblG_m3 74 rfl rfl
set_option maxRecDepth 20000 in
theorem sl_X0_goBack : Cond.selects mX0_goBack.1.cls mX0_goBack.1 mX0_goBack.1 ∈ tblG := tblG_p2 0 rfl rfl
set_option maxRecDepth 20000 in
theorem im_X0_changePlaces : Cond.instanceMethod mX0_changePlaces.1 ∈ tblG := tblG_m3 44 rfl rfl
set_option maxRecDepth 20000 in
theorem sl_X0_changePlaces : Cond.selects mX0_changePlaces.1.cls mX0_changePlaces.1 mX0_changePlaces.1 ∈ tblG := tblG_p1 14 rfl rfl
set_option maxRecDepth 20000 in
theorem im_X1_join : Cond.instanceMethod mX1_join.1 ∈ tblG := tblG_m3 188 rfl rfl
set_option maxRecDepth 20000 in
theorem sl_X1_join : Cond.selects mX1_join.1.cls mX1_join.1 mX1_join.1 ∈ tblG := tblG_m3 189 rfl rfl
set_option maxRecDepth 20000 in
theorem im_X1_sortOut : Cond.instanceMethod mX1_sortOut.1 ∈ tblG := tblG_m3 193 rfl rfl
set_option maxRecDepth 20000 in
theorem sl_X1_sortOut : Cond.selects mX1_sortOut.1.cls mX1_sortOut.1 mX1_sortOut.1 ∈ tblG := tblG_p2 11 rfl rfl
set_option maxRecDepth 20000 in
theorem im_X1_mayJoin : Cond.instanceMethod mX1_mayJoin.1 ∈ tblG := tblG_m3 219 rfl rfl
set_option maxRecDepth 20000 in
theorem sl_X1_mayJoin : Cond.selects mX1_mayJoin.1.cls mX1_mayJoin.1 mX1_mayJoin.1 ∈ tblG := tblG_p2 15 rfl rfl
set_option maxRecDepth 20000 in
theorem im_X1_difference : Cond.instanceMethod mX1_difference.1 ∈ tblG := tblG_m3 228 rfl rfl
set_option maxRecDepth 20000 in
theorem sl_X1_difference : Cond.selects mX1_difference.1.cls mX1_difference.1 mX1_difference.1 ∈ tblG := tblG_p3 1 rfl rfl
set_option maxRecDepth 20000 in
theorem im_X1_bestFrom : Cond.instanceMethod mX1_bestFrom.1 ∈ tblG := tblG_m3 215 rfl rfl
set_option maxRecDepth 20000 in
theorem sl_X1_bestFrom : Cond.selects mX1_bestFrom.1.cls mX1_bestFrom.1 mX1_bestFrom.1 ∈ tblG := tblG_p2 14 rfl rfl
set_option maxRecDepth 20000 in
theorem im_X1_worthOf : Cond.instanceMethod mX1_worthOf.1 ∈ tblG := tblG_m3 224 rfl rfl
set_option maxRecDepth 20000 in
theorem sl_X1_worthOf : Cond.selects mX1_worthOf.1.cls mX1_worthOf.1 mX1_worthOf.1 ∈ tblG := tblG_p3 0 rfl rfl
set_option maxRecDepth 20000 in
theorem im_X1_weigh : Cond.instanceMethod mX1_weigh.1 ∈ tblG := tblG_m3 201 rfl rfl
set_option maxRecDepth 20000 in
theorem sl_X1_weigh : Cond.selects mX1_weigh.1.cls mX1_weigh.1 mX1_weigh.1 ∈ tblG := tblG_p2 12 rfl rfl
set_option maxRecDepth 20000 in
theorem im_X1_bestOf : Cond.instanceMethod mX1_bestOf.1 ∈ tblG := tblG_m3 211 rfl rfl
set_option maxRecDepth 20000 in
theorem sl_X1_bestOf : Cond.selects mX1_bestOf.1.cls mX1_bestOf.1 mX1_bestOf.1 ∈ tblG := tblG_p2 13 rfl rfl
set_option maxRecDepth 20000 in
theorem im_X1_choose : Cond.instanceMethod mX1_choose.1 ∈ tblG := tblG_m3 235 rfl rfl
set_option maxRecDepth 20000 in
theorem sl_X1_choose : Cond.selects mX1_choose.1.cls mX1_choose.1 mX1_choose.1 ∈ tblG := tblG_p3 2 rfl rfl
set_option maxRecDepth 20000 in
theorem im_X1_firstOut : Cond.instanceMethod mX1_firstOut.1 ∈ tblG := tblG_m3 239 rfl rfl
set_option maxRecDepth 20000 in
theorem sl_X1_firstOut : Cond.selects mX1_firstOut.1.cls mX1_firstOut.1 mX1_firstOut.1 ∈ tblG := tblG_p3 3 rfl rfl
set_option maxRecDepth 20000 in
theorem im_X2_study : Cond.instanceMethod mX2_study.1 ∈ tblG := tblG_m2 131 rfl rfl
set_option maxRecDepth 20000 in
theorem sl_X2_study : Cond.selects mX2_study.1.cls mX2_study.1 mX2_study.1 ∈ tblG := tblG_m2 132 rfl rfl
set_option maxRecDepth 20000 in
theorem im_X2_sortByRow : Cond.instanceMethod mX2_sortByRow.1 ∈ tblG := tblG_m2 136 rfl rfl
set_option maxRecDepth 20000 in
theorem sl_X2_sortByRow : Cond.selects mX2_sortByRow.1.cls mX2_sortByRow.1 mX2_sortByRow.1 ∈ tblG := tblG_p1 2 rfl rfl
set_option maxRecDepth 20000 in
theorem im_X2_take : Cond.instanceMethod mX2_take.1 ∈ tblG := tblG_m2 143 rfl rfl
set_option maxRecDepth 20000 in
theorem sl_X2_take : Cond.selects mX2_take.1.cls mX2_take.1 mX2_take.1 ∈ tblG := tblG_p1 3 rfl rfl
set_option maxRecDepth 20000 in
theorem im_X2_neededBy : Cond.instanceMethod mX2_neededBy.1 ∈ tblG := tblG_m2 237 rfl rfl
set_option maxRecDepth 20000 in
theorem sl_X2_neededBy : Cond.selects mX2_neededBy.1.cls mX2_neededBy.1 mX2_neededBy.1 ∈ tblG := tblG_m2 238 rfl rfl
set_option maxRecDepth 20000 in
theorem im_X3_begin : Cond.instanceMethod mX3_begin.1 ∈ tblG := tblG_m2 24 rfl rfl
set_option maxRecDepth 20000 in
theorem sl_X3_begin : Cond.selects mX3_begin.1.cls mX3_begin.1 mX3_begin.1 ∈ tblG := tblG_m2 25 rfl rfl
set_option maxRecDepth 20000 in
theorem im_X3_copyFrom : Cond.instanceMethod mX3_copyFrom.1 ∈ tblG := tblG_m4 168 rfl rfl
set_option maxRecDepth 20000 in
theorem sl_X3_copyFrom : Cond.selects mX3_copyFrom.1.cls mX3_copyFrom.1 mX3_copyFrom.1 ∈ tblG := tblG_m4 169 rfl rfl
set_option maxRecDepth 20000 in
theorem im_X3_isSlot : Cond.instanceMethod mX3_isSlot.1 ∈ tblG := tblG_m2 168 rfl rfl
set_option maxRecDepth 20000 in
theorem sl_X3_isSlot : Cond.selects mX3_isSlot.1.cls mX3_isSlot.1 mX3_isSlot.1 ∈ tblG := tblG_m2 169 rfl rfl
set_option maxRecDepth 20000 in
theorem im_X3_isPinSlot : Cond.instanceMethod mX3_isPinSlot.1 ∈ tblG := tblG_m2 83 rfl rfl
set_option maxRecDepth 20000 in
theorem sl_X3_isPinSlot : Cond.selects mX3_isPinSlot.1.cls mX3_isPinSlot.1 mX3_isPinSlot.1 ∈ tblG := tblG_m2 84 rfl rfl
set_option maxRecDepth 20000 in
theorem im_X3_isPin : Cond.instanceMethod mX3_isPin.1 ∈ tblG := tblG_m2 109 rfl rfl
set_option maxRecDepth 20000 in
theorem sl_X3_isPin : Cond.selects mX3_isPin.1.cls mX3_isPin.1 mX3_isPin.1 ∈ tblG := tblG_m2 110 rfl rfl
set_option maxRecDepth 20000 in
theorem im_X3_addPin : Cond.instanceMethod mX3_addPin.1 ∈ tblG := tblG_m2 94 rfl rfl
set_option maxRecDepth 20000 in
theorem sl_X3_addPin : Cond.selects mX3_addPin.1.cls mX3_addPin.1 mX3_addPin.1 ∈ tblG := tblG_m2 95 rfl rfl
set_option maxRecDepth 20000 in
theorem im_X3_fillAtFirst : Cond.instanceMethod mX3_fillAtFirst.1 ∈ tblG := tblG_m2 172 rfl rfl
set_option maxRecDepth 20000 in
theorem sl_X3_fillAtFirst : Cond.selects mX3_fillAtFirst.1.cls mX3_fillAtFirst.1 mX3_fillAtFirst.1 ∈ tblG := tblG_m2 173 rfl rfl
set_option maxRecDepth 20000 in
theorem sm_X3_turnNumber : Cond.static mX3_turnNumber.1 ∈ tblG := tblG_m2 184 rfl rfl
set_option maxRecDepth 20000 in
theorem sm_X3_slotOfTurn : Cond.static mX3_slotOfTurn.1 ∈ tblG := tblG_m2 158 rfl rfl
set_option maxRecDepth 20000 in
theorem sm_X3_rowOfTurn : Cond.static mX3_rowOfTurn.1 ∈ tblG := tblG_m2 161 rfl rfl
set_option maxRecDepth 20000 in
theorem im_X3_turnAt : Cond.instanceMethod mX3_turnAt.1 ∈ tblG := tblG_m2 180 rfl rfl
set_option maxRecDepth 20000 in
theorem sl_X3_turnAt : Cond.selects mX3_turnAt.1.cls mX3_turnAt.1 mX3_turnAt.1 ∈ tblG := tblG_m2 181 rfl rfl
set_option maxRecDepth 20000 in
theorem im_X3_placeOfTurn : Cond.instanceMethod mX3_placeOfTurn.1 ∈ tblG := tblG_m2 188 rfl rfl
set_option maxRecDepth 20000 in
theorem sl_X3_placeOfTurn : Cond.selects mX3_placeOfTurn.1.cls mX3_placeOfTurn.1 mX3_placeOfTurn.1 ∈ tblG := tblG_p1 4 rfl rfl
set_option maxRecDepth 20000 in
theorem im_X3_removeTurn : Cond.instanceMethod mX3_removeTurn.1 ∈ tblG := tblG_m2 192 rfl rfl
set_option maxRecDepth 20000 in
theorem sl_X3_removeTurn : Cond.selects mX3_removeTurn.1.cls mX3_removeTurn.1 mX3_removeTurn.1 ∈ tblG := tblG_p1 5 rfl rfl
set_option maxRecDepth 20000 in
theorem im_X3_sortTurns : Cond.instanceMethod mX3_sortTurns.1 ∈ tblG := tblG_m2 196 rfl rfl
set_option maxRecDepth 20000 in
theorem sl_X3_sortTurns : Cond.selects mX3_sortTurns.1.cls mX3_sortTurns.1 mX3_sortTurns.1 ∈ tblG := tblG_p1 6 rfl rfl
set_option maxRecDepth 20000 in
theorem im_X3_isFilled : Cond.instanceMethod mX3_isFilled.1 ∈ tblG := tblG_m2 154 rfl rfl
set_option maxRecDepth 20000 in
theorem sl_X3_isFilled : Cond.selects mX3_isFilled.1.cls mX3_isFilled.1 mX3_isFilled.1 ∈ tblG := tblG_m2 155 rfl rfl
set_option maxRecDepth 20000 in
theorem im_X3_turnsFull : Cond.instanceMethod mX3_turnsFull.1 ∈ tblG := tblG_m3 196 rfl rfl
set_option maxRecDepth 20000 in
theorem sl_X3_turnsFull : Cond.selects mX3_turnsFull.1.cls mX3_turnsFull.1 mX3_turnsFull.1 ∈ tblG := tblG_m3 197 rfl rfl
set_option maxRecDepth 20000 in
theorem im_X3_turnsInto : Cond.instanceMethod mX3_turnsInto.1 ∈ tblG := tblG_m4 208 rfl rfl
set_option maxRecDepth 20000 in
theorem sl_X3_turnsInto : Cond.selects mX3_turnsInto.1.cls mX3_turnsInto.1 mX3_turnsInto.1 ∈ tblG := tblG_m4 209 rfl rfl
set_option maxRecDepth 20000 in
theorem im_X3_lacksPair : Cond.instanceMethod mX3_lacksPair.1 ∈ tblG := tblG_m2 150 rfl rfl
set_option maxRecDepth 20000 in
theorem sl_X3_lacksPair : Cond.selects mX3_lacksPair.1.cls mX3_lacksPair.1 mX3_lacksPair.1 ∈ tblG := tblG_m2 151 rfl rfl
set_option maxRecDepth 20000 in
theorem im_X3_uppermost : Cond.instanceMethod mX3_uppermost.1 ∈ tblG := tblG_m3 52 rfl rfl
set_option maxRecDepth 20000 in
theorem sl_X3_uppermost : Cond.selects mX3_uppermost.1.cls mX3_uppermost.1 mX3_uppermost.1 ∈ tblG := tblG_m3 53 rfl rfl
set_option maxRecDepth 20000 in
theorem im_X3_isAbove : Cond.instanceMethod mX3_isAbove.1 ∈ tblG := tblG_m3 58 rfl rfl
set_option maxRecDepth 20000 in
theorem sl_X3_isAbove : Cond.selects mX3_isAbove.1.cls mX3_isAbove.1 mX3_isAbove.1 ∈ tblG := tblG_p1 15 rfl rfl
set_option maxRecDepth 20000 in
theorem im_X3_flippedFill : Cond.instanceMethod mX3_flippedFill.1 ∈ tblG := tblG_m2 217 rfl rfl
set_option maxRecDepth 20000 in
theorem sl_X3_flippedFill : Cond.selects mX3_flippedFill.1.cls mX3_flippedFill.1 mX3_flippedFill.1 ∈ tblG := tblG_p1 8 rfl rfl
set_option maxRecDepth 20000 in
theorem im_X3_flippedTurn : Cond.instanceMethod mX3_flippedTurn.1 ∈ tblG := tblG_m2 213 rfl rfl
set_option maxRecDepth 20000 in
theorem sl_X3_flippedTurn : Cond.selects mX3_flippedTurn.1.cls mX3_flippedTurn.1 mX3_flippedTurn.1 ∈ tblG := tblG_p1 7 rfl rfl
set_option maxRecDepth 20000 in
theorem im_X3_flip : Cond.instanceMethod mX3_flip.1 ∈ tblG := tblG_m2 208 rfl rfl
set_option maxRecDepth 20000 in
theorem sl_X3_flip : Cond.selects mX3_flip.1.cls mX3_flip.1 mX3_flip.1 ∈ tblG := tblG_m2 209 rfl rfl
set_option maxRecDepth 20000 in
theorem im_X3_isEven : Cond.instanceMethod mX3_isEven.1 ∈ tblG := tblG_m2 224 rfl rfl
set_option maxRecDepth 20000 in
theorem sl_X3_isEven : Cond.selects mX3_isEven.1.cls mX3_isEven.1 mX3_isEven.1 ∈ tblG := tblG_m2 225 rfl rfl
set_option maxRecDepth 20000 in
theorem im_X3_hasLike : Cond.instanceMethod mX3_hasLike.1 ∈ tblG := tblG_m2 229 rfl rfl
set_option maxRecDepth 20000 in
theorem sl_X3_hasLike : Cond.selects mX3_hasLike.1.cls mX3_hasLike.1 mX3_hasLike.1 ∈ tblG := tblG_p1 9 rfl rfl
set_option maxRecDepth 20000 in
theorem im_X4_isList : Cond.instanceMethod mX4_isList.1 ∈ tblG := tblG_m4 28 rfl rfl
set_option maxRecDepth 20000 in
theorem sl_X4_isList : Cond.selects mX4_isList.1.cls mX4_isList.1 mX4_isList.1 ∈ tblG := tblG_m4 29 rfl rfl
set_option maxRecDepth 20000 in
theorem im_X4_holds : Cond.instanceMethod mX4_holds.1 ∈ tblG := tblG_m4 32 rfl rfl
set_option maxRecDepth 20000 in
theorem sl_X4_holds : Cond.selects mX4_holds.1.cls mX4_holds.1 mX4_holds.1 ∈ tblG := tblG_m4 33 rfl rfl
set_option maxRecDepth 20000 in
theorem im_X4_hasPlace : Cond.instanceMethod mX4_hasPlace.1 ∈ tblG := tblG_m4 196 rfl rfl
set_option maxRecDepth 20000 in
theorem sl_X4_hasPlace : Cond.selects mX4_hasPlace.1.cls mX4_hasPlace.1 mX4_hasPlace.1 ∈ tblG := tblG_m4 197 rfl rfl
set_option maxRecDepth 20000 in
theorem im_X4_begin : Cond.instanceMethod mX4_begin.1 ∈ tblG := tblG_m4 187 rfl rfl
set_option maxRecDepth 20000 in
theorem sl_X4_begin : Cond.selects mX4_begin.1.cls mX4_begin.1 mX4_begin.1 ∈ tblG := tblG_m4 188 rfl rfl
set_option maxRecDepth 20000 in
theorem im_X4_put : Cond.instanceMethod mX4_put.1 ∈ tblG := tblG_m4 36 rfl rfl
set_option maxRecDepth 20000 in
theorem sl_X4_put : Cond.selects mX4_put.1.cls mX4_put.1 mX4_put.1 ∈ tblG := tblG_m4 37 rfl rfl
set_option maxRecDepth 20000 in
theorem im_X4_at : Cond.instanceMethod mX4_at.1 ∈ tblG := tblG_m4 48 rfl rfl
set_option maxRecDepth 20000 in
theorem sl_X4_at : Cond.selects mX4_at.1.cls mX4_at.1 mX4_at.1 ∈ tblG := tblG_m4 49 rfl rfl
set_option maxRecDepth 20000 in
theorem im_X5_append : Cond.instanceMethod mX5_append.1 ∈ tblG := tblG_m4 56 rfl rfl
set_option maxRecDepth 20000 in
theorem sl_X5_append : Cond.selects mX5_append.1.cls mX5_append.1 mX5_append.1 ∈ tblG := tblG_m4 57 rfl rfl
set_option maxRecDepth 20000 in
theorem im_X5_read : Cond.instanceMethod mX5_read.1 ∈ tblG := tblG_m4 68 rfl rfl
set_option maxRecDepth 20000 in
theorem sl_X5_read : Cond.selects mX5_read.1.cls mX5_read.1 mX5_read.1 ∈ tblG := tblG_m4 69 rfl rfl
set_option maxRecDepth 20000 in
theorem im_X5_readPart : Cond.instanceMethod mX5_readPart.1 ∈ tblG := tblG_m4 73 rfl rfl
set_option maxRecDepth 20000 in
theorem sl_X5_readPart : Cond.selects mX5_readPart.1.cls mX5_readPart.1 mX5_readPart.1 ∈ tblG := tblG_p3 6 rfl rfl
set_option maxRecDepth 20000 in
theorem im_X5_readKind : Cond.instanceMethod mX5_readKind.1 ∈ tblG := tblG_m4 77 rfl rfl
set_option maxRecDepth 20000 in
theorem sl_X5_readKind : Cond.selects mX5_readKind.1.cls mX5_readKind.1 mX5_readKind.1 ∈ tblG := tblG_p3 7 rfl rfl
set_option maxRecDepth 20000 in
theorem im_X5_readStitch : Cond.instanceMethod mX5_readStitch.1 ∈ tblG := tblG_m4 157 rfl rfl
set_option maxRecDepth 20000 in
theorem sl_X5_readStitch : Cond.selects mX5_readStitch.1.cls mX5_readStitch.1 mX5_readStitch.1 ∈ tblG := tblG_p3 14 rfl rfl
set_option maxRecDepth 20000 in
theorem sm_X5_nameOf : Cond.static mX5_nameOf.1 ∈ tblG := tblG_m4 160 rfl rfl
set_option maxRecDepth 20000 in
theorem im_X5_readNumber : Cond.instanceMethod mX5_readNumber.1 ∈ tblG := tblG_m4 141 rfl rfl
set_option maxRecDepth 20000 in
theorem sl_X5_readNumber : Cond.selects mX5_readNumber.1.cls mX5_readNumber.1 mX5_readNumber.1 ∈ tblG := tblG_p3 10 rfl rfl
set_option maxRecDepth 20000 in
theorem im_X5_isFigureHere : Cond.instanceMethod mX5_isFigureHere.1 ∈ tblG := tblG_m4 149 rfl rfl
set_option maxRecDepth 20000 in
theorem sl_X5_isFigureHere : Cond.selects mX5_isFigureHere.1.cls mX5_isFigureHere.1 mX5_isFigureHere.1 ∈ tblG := tblG_p3 12 rfl rfl
set_option maxRecDepth 20000 in
theorem im_X5_readFigure : Cond.instanceMethod mX5_readFigure.1 ∈ tblG := tblG_m4 153 rfl rfl
set_option maxRecDepth 20000 in
theorem sl_X5_readFigure : Cond.selects mX5_readFigure.1.cls mX5_readFigure.1 mX5_readFigure.1 ∈ tblG := tblG_p3 13 rfl rfl
set_option maxRecDepth 20000 in
theorem im_X5_skipWord : Cond.instanceMethod mX5_skipWord.1 ∈ tblG := tblG_m4 81 rfl rfl
set_option maxRecDepth 20000 in
theorem sl_X5_skipWord : Cond.selects mX5_skipWord.1.cls mX5_skipWord.1 mX5_skipWord.1 ∈ tblG := tblG_p3 8 rfl rfl
set_option maxRecDepth 20000 in
theorem im_X5_isWord : Cond.instanceMethod mX5_isWord.1 ∈ tblG := tblG_m4 86 rfl rfl
set_option maxRecDepth 20000 in
theorem sl_X5_isWord : Cond.selects mX5_isWord.1.cls mX5_isWord.1 mX5_isWord.1 ∈ tblG := tblG_p3 9 rfl rfl
set_option maxRecDepth 20000 in
theorem im_X5_expect : Cond.instanceMethod mX5_expect.1 ∈ tblG := tblG_m4 145 rfl rfl
set_option maxRecDepth 20000 in
theorem sl_X5_expect : Cond.selects mX5_expect.1.cls mX5_expect.1 mX5_expect.1 ∈ tblG := tblG_p3 11 rfl rfl
set_option maxRecDepth 20000 in
theorem im_X6_gather : Cond.instanceMethod mX6_gather.1 ∈ tblG := tblG_m3 115 rfl rfl
set_option maxRecDepth 20000 in
theorem sl_X6_gather : Cond.selects mX6_gather.1.cls mX6_gather.1 mX6_gather.1 ∈ tblG := tblG_m3 116 rfl rfl
set_option maxRecDepth 20000 in
theorem im_X6_amongLeft : Cond.instanceMethod mX6_amongLeft.1 ∈ tblG := tblG_m3 121 rfl rfl
set_option maxRecDepth 20000 in
theorem sl_X6_amongLeft : Cond.selects mX6_amongLeft.1.cls mX6_amongLeft.1 mX6_amongLeft.1 ∈ tblG := tblG_p2 3 rfl rfl
set_option maxRecDepth 20000 in
theorem im_X6_comesNext : Cond.instanceMethod mX6_comesNext.1 ∈ tblG := tblG_m3 133 rfl rfl
set_option maxRecDepth 20000 in
theorem sl_X6_comesNext : Cond.selects mX6_comesNext.1.cls mX6_comesNext.1 mX6_comesNext.1 ∈ tblG := tblG_p2 6 rfl rfl
set_option maxRecDepth 20000 in
theorem im_X6_findSets : Cond.instanceMethod mX6_findSets.1 ∈ tblG := tblG_m3 125 rfl rfl
set_option maxRecDepth 20000 in
theorem sl_X6_findSets : Cond.selects mX6_findSets.1.cls mX6_findSets.1 mX6_findSets.1 ∈ tblG := tblG_p2 4 rfl rfl
set_option maxRecDepth 20000 in
theorem im_X6_addSet : Cond.instanceMethod mX6_addSet.1 ∈ tblG := tblG_m3 129 rfl rfl
set_option maxRecDepth 20000 in
theorem sl_X6_addSet : Cond.selects mX6_addSet.1.cls mX6_addSet.1 mX6_addSet.1 ∈ tblG := tblG_p2 5 rfl rfl
set_option maxRecDepth 20000 in
theorem im_X6_lawfulOrders : Cond.instanceMethod mX6_lawfulOrders.1 ∈ tblG := tblG_m3 137 rfl rfl
set_option maxRecDepth 20000 in
theorem sl_X6_lawfulOrders : Cond.selects mX6_lawfulOrders.1.cls mX6_lawfulOrders.1 mX6_lawfulOrders.1 ∈ tblG := tblG_m3 138 rfl rfl
set_option maxRecDepth 20000 in
theorem im_X6_waysBy : Cond.instanceMethod mX6_waysBy.1 ∈ tblG := tblG_m3 142 rfl rfl
set_option maxRecDepth 20000 in
theorem sl_X6_waysBy : Cond.selects mX6_waysBy.1.cls mX6_waysBy.1 mX6_waysBy.1 ∈ tblG := tblG_p2 7 rfl rfl
set_option maxRecDepth 20000 in
theorem im_X6_pinOfOrder : Cond.instanceMethod mX6_pinOfOrder.1 ∈ tblG := tblG_m3 149 rfl rfl
set_option maxRecDepth 20000 in
theorem sl_X6_pinOfOrder : Cond.selects mX6_pinOfOrder.1.cls mX6_pinOfOrder.1 mX6_pinOfOrder.1 ∈ tblG := tblG_m3 150 rfl rfl
set_option maxRecDepth 20000 in
theorem im_X6_leastTravel : Cond.instanceMethod mX6_leastTravel.1 ∈ tblG := tblG_m3 157 rfl rfl
set_option maxRecDepth 20000 in
theorem sl_X6_leastTravel : Cond.selects mX6_leastTravel.1.cls mX6_leastTravel.1 mX6_leastTravel.1 ∈ tblG := tblG_m3 158 rfl rfl
set_option maxRecDepth 20000 in
theorem im_X6_travelBy : Cond.instanceMethod mX6_travelBy.1 ∈ tblG := tblG_m3 166 rfl rfl
set_option maxRecDepth 20000 in
theorem sl_X6_travelBy : Cond.selects mX6_travelBy.1.cls mX6_travelBy.1 mX6_travelBy.1 ∈ tblG := tblG_p2 9 rfl rfl
set_option maxRecDepth 20000 in
theorem im_X6_leastFrom : Cond.instanceMethod mX6_leastFrom.1 ∈ tblG := tblG_m3 162 rfl rfl
set_option maxRecDepth 20000 in
theorem sl_X6_leastFrom : Cond.selects mX6_leastFrom.1.cls mX6_leastFrom.1 mX6_leastFrom.1 ∈ tblG := tblG_p2 8 rfl rfl
set_option maxRecDepth 20000 in
theorem im_X6_pinOfLeast : Cond.instanceMethod mX6_pinOfLeast.1 ∈ tblG := tblG_m3 175 rfl rfl
set_option maxRecDepth 20000 in
theorem sl_X6_pinOfLeast : Cond.selects mX6_pinOfLeast.1.cls mX6_pinOfLeast.1 mX6_pinOfLeast.1 ∈ tblG := tblG_m3 176 rfl rfl
set_option maxRecDepth 20000 in
theorem im_X6_firstBy : Cond.instanceMethod mX6_firstBy.1 ∈ tblG := tblG_m3 181 rfl rfl
set_option maxRecDepth 20000 in
theorem sl_X6_firstBy : Cond.selects mX6_firstBy.1.cls mX6_firstBy.1 mX6_firstBy.1 ∈ tblG := tblG_p2 10 rfl rfl
set_option maxRecDepth 20000 in
theorem im_X7_loom : Cond.instanceMethod mX7_loom.1 ∈ tblG := tblG_m2 72 rfl rfl
set_option maxRecDepth 20000 in
theorem sl_X7_loom : Cond.selects mX7_loom.1.cls mX7_loom.1 mX7_loom.1 ∈ tblG := tblG_m2 73 rfl rfl
set_option maxRecDepth 20000 in
theorem im_X7_pin : Cond.instanceMethod mX7_pin.1 ∈ tblG := tblG_m2 76 rfl rfl
set_option maxRecDepth 20000 in
theorem sl_X7_pin : Cond.selects mX7_pin.1.cls mX7_pin.1 mX7_pin.1 ∈ tblG := tblG_m2 77 rfl rfl
set_option maxRecDepth 20000 in
theorem im_X7_drop : Cond.instanceMethod mX7_drop.1 ∈ tblG := tblG_m2 101 rfl rfl
set_option maxRecDepth 20000 in
theorem sl_X7_drop : Cond.selects mX7_drop.1.cls mX7_drop.1 mX7_drop.1 ∈ tblG := tblG_m2 102 rfl rfl
set_option maxRecDepth 20000 in
theorem im_X7_stitch : Cond.instanceMethod mX7_stitch.1 ∈ tblG := tblG_m2 105 rfl rfl
set_option maxRecDepth 20000 in
theorem sl_X7_stitch : Cond.selects mX7_stitch.1.cls mX7_stitch.1 mX7_stitch.1 ∈ tblG := tblG_m2 106 rfl rfl
set_option maxRecDepth 20000 in
theorem im_X7_of : Cond.instanceMethod mX7_of.1 ∈ tblG := tblG_m2 113 rfl rfl
set_option maxRecDepth 20000 in
theorem sl_X7_of : Cond.selects mX7_of.1.cls mX7_of.1 mX7_of.1 ∈ tblG := tblG_m2 114 rfl rfl
set_option maxRecDepth 20000 in
theorem im_X7_fill : Cond.instanceMethod mX7_fill.1 ∈ tblG := tblG_m2 164 rfl rfl
set_option maxRecDepth 20000 in
theorem sl_X7_fill : Cond.selects mX7_fill.1.cls mX7_fill.1 mX7_fill.1 ∈ tblG := tblG_m2 165 rfl rfl
set_option maxRecDepth 20000 in
theorem im_X7_turn : Cond.instanceMethod mX7_turn.1 ∈ tblG := tblG_m2 176 rfl rfl
set_option maxRecDepth 20000 in
theorem sl_X7_turn : Cond.selects mX7_turn.1.cls mX7_turn.1 mX7_turn.1 ∈ tblG := tblG_m2 177 rfl rfl
set_option maxRecDepth 20000 in
theorem im_X7_filled : Cond.instanceMethod mX7_filled.1 ∈ tblG := tblG_m2 199 rfl rfl
set_option maxRecDepth 20000 in
theorem sl_X7_filled : Cond.selects mX7_filled.1.cls mX7_filled.1 mX7_filled.1 ∈ tblG := tblG_m2 200 rfl rfl
set_option maxRecDepth 20000 in
theorem im_X7_mirror : Cond.instanceMethod mX7_mirror.1 ∈ tblG := tblG_m2 204 rfl rfl
set_option maxRecDepth 20000 in
theorem sl_X7_mirror : Cond.selects mX7_mirror.1.cls mX7_mirror.1 mX7_mirror.1 ∈ tblG := tblG_m2 205 rfl rfl
set_option maxRecDepth 20000 in
theorem im_X7_even : Cond.instanceMethod mX7_even.1 ∈ tblG := tblG_m2 220 rfl rfl
set_option maxRecDepth 20000 in
theorem sl_X7_even : Cond.selects mX7_even.1.cls mX7_even.1 mX7_even.1 ∈ tblG := tblG_m2 221 rfl rfl
set_option maxRecDepth 20000 in
theorem im_X7_needs : Cond.instanceMethod mX7_needs.1 ∈ tblG := tblG_m2 232 rfl rfl
set_option maxRecDepth 20000 in
theorem sl_X7_needs : Cond.selects mX7_needs.1.cls mX7_needs.1 mX7_needs.1 ∈ tblG := tblG_m2 233 rfl rfl
set_option maxRecDepth 20000 in
theorem im_X7_pins : Cond.instanceMethod mX7_pins.1 ∈ tblG := tblG_m3 2 rfl rfl
set_option maxRecDepth 20000 in
theorem sl_X7_pins : Cond.selects mX7_pins.1.cls mX7_pins.1 mX7_pins.1 ∈ tblG := tblG_m3 3 rfl rfl
set_option maxRecDepth 20000 in
theorem im_X7_deepest : Cond.instanceMethod mX7_deepest.1 ∈ tblG := tblG_m3 16 rfl rfl
set_option maxRecDepth 20000 in
theorem sl_X7_deepest : Cond.selects mX7_deepest.1.cls mX7_deepest.1 mX7_deepest.1 ∈ tblG := tblG_m3 17 rfl rfl
set_option maxRecDepth 20000 in
theorem im_X7_work : Cond.instanceMethod mX7_work.1 ∈ tblG := tblG_m3 21 rfl rfl
set_option maxRecDepth 20000 in
theorem sl_X7_work : Cond.selects mX7_work.1.cls mX7_work.1 mX7_work.1 ∈ tblG := tblG_m3 22 rfl rfl
set_option maxRecDepth 20000 in
theorem im_X7_workAll : Cond.instanceMethod mX7_workAll.1 ∈ tblG := tblG_m3 48 rfl rfl
set_option maxRecDepth 20000 in
theorem sl_X7_workAll : Cond.selects mX7_workAll.1.cls mX7_workAll.1 mX7_workAll.1 ∈ tblG := tblG_m3 49 rfl rfl
set_option maxRecDepth 20000 in
theorem im_X7_undo : Cond.instanceMethod mX7_undo.1 ∈ tblG := tblG_m3 61 rfl rfl
set_option maxRecDepth 20000 in
theorem sl_X7_undo : Cond.selects mX7_undo.1.cls mX7_undo.1 mX7_undo.1 ∈ tblG := tblG_m3 62 rfl rfl
set_option maxRecDepth 20000 in
theorem im_X7_thread : Cond.instanceMethod mX7_thread.1 ∈ tblG := tblG_m3 78 rfl rfl
set_option maxRecDepth 20000 in
theorem sl_X7_thread : Cond.selects mX7_thread.1.cls mX7_thread.1 mX7_thread.1 ∈ tblG := tblG_m3 79 rfl rfl
set_option maxRecDepth 20000 in
theorem im_X7_where : Cond.instanceMethod mX7_where.1 ∈ tblG := tblG_m3 82 rfl rfl
set_option maxRecDepth 20000 in
theorem sl_X7_where : Cond.selects mX7_where.1.cls mX7_where.1 mX7_where.1 ∈ tblG := tblG_m3 83 rfl rfl
set_option maxRecDepth 20000 in
theorem im_X7_overs : Cond.instanceMethod mX7_overs.1 ∈ tblG := tblG_m3 90 rfl rfl
set_option maxRecDepth 20000 in
theorem sl_X7_overs : Cond.selects mX7_overs.1.cls mX7_overs.1 mX7_overs.1 ∈ tblG := tblG_m3 91 rfl rfl
set_option maxRecDepth 20000 in
theorem im_X7_acts : Cond.instanceMethod mX7_acts.1 ∈ tblG := tblG_m3 94 rfl rfl
set_option maxRecDepth 20000 in
theorem sl_X7_acts : Cond.selects mX7_acts.1.cls mX7_acts.1 mX7_acts.1 ∈ tblG := tblG_m3 95 rfl rfl
set_option maxRecDepth 20000 in
theorem im_X7_hand : Cond.instanceMethod mX7_hand.1 ∈ tblG := tblG_m3 103 rfl rfl
set_option maxRecDepth 20000 in
theorem sl_X7_hand : Cond.selects mX7_hand.1.cls mX7_hand.1 mX7_hand.1 ∈ tblG := tblG_m3 104 rfl rfl
set_option maxRecDepth 20000 in
theorem im_X7_orders : Cond.instanceMethod mX7_orders.1 ∈ tblG := tblG_m3 107 rfl rfl
set_option maxRecDepth 20000 in
theorem sl_X7_orders : Cond.selects mX7_orders.1.cls mX7_orders.1 mX7_orders.1 ∈ tblG := tblG_m3 108 rfl rfl
set_option maxRecDepth 20000 in
theorem im_X7_order : Cond.instanceMethod mX7_order.1 ∈ tblG := tblG_m3 145 rfl rfl
set_option maxRecDepth 20000 in
theorem sl_X7_order : Cond.selects mX7_order.1.cls mX7_order.1 mX7_order.1 ∈ tblG := tblG_m3 146 rfl rfl
set_option maxRecDepth 20000 in
theorem im_X7_travel : Cond.instanceMethod mX7_travel.1 ∈ tblG := tblG_m3 153 rfl rfl
set_option maxRecDepth 20000 in
theorem sl_X7_travel : Cond.selects mX7_travel.1.cls mX7_travel.1 mX7_travel.1 ∈ tblG := tblG_m3 154 rfl rfl
set_option maxRecDepth 20000 in
theorem im_X7_along : Cond.instanceMethod mX7_along.1 ∈ tblG := tblG_m3 171 rfl rfl
set_option maxRecDepth 20000 in
theorem sl_X7_along : Cond.selects mX7_along.1.cls mX7_along.1 mX7_along.1 ∈ tblG := tblG_m3 172 rfl rfl
set_option maxRecDepth 20000 in
theorem im_X7_pairs : Cond.instanceMethod mX7_pairs.1 ∈ tblG := tblG_m3 184 rfl rfl
set_option maxRecDepth 20000 in
theorem sl_X7_pairs : Cond.selects mX7_pairs.1.cls mX7_pairs.1 mX7_pairs.1 ∈ tblG := tblG_m3 185 rfl rfl
set_option maxRecDepth 20000 in
theorem im_X7_hang : Cond.instanceMethod mX7_hang.1 ∈ tblG := tblG_m4 3 rfl rfl
set_option maxRecDepth 20000 in
theorem sl_X7_hang : Cond.selects mX7_hang.1.cls mX7_hang.1 mX7_hang.1 ∈ tblG := tblG_m4 4 rfl rfl
set_option maxRecDepth 20000 in
theorem im_X7_draft : Cond.instanceMethod mX7_draft.1 ∈ tblG := tblG_m4 12 rfl rfl
set_option maxRecDepth 20000 in
theorem sl_X7_draft : Cond.selects mX7_draft.1.cls mX7_draft.1 mX7_draft.1 ∈ tblG := tblG_m4 13 rfl rfl
set_option maxRecDepth 20000 in
theorem im_X7_paper : Cond.instanceMethod mX7_paper.1 ∈ tblG := tblG_m4 20 rfl rfl
set_option maxRecDepth 20000 in
theorem sl_X7_paper : Cond.selects mX7_paper.1.cls mX7_paper.1 mX7_paper.1 ∈ tblG := tblG_m4 21 rfl rfl
set_option maxRecDepth 20000 in
theorem im_X7_lay : Cond.instanceMethod mX7_lay.1 ∈ tblG := tblG_m4 24 rfl rfl
set_option maxRecDepth 20000 in
theorem sl_X7_lay : Cond.selects mX7_lay.1.cls mX7_lay.1 mX7_lay.1 ∈ tblG := tblG_m4 25 rfl rfl
set_option maxRecDepth 20000 in
theorem im_X7_seen : Cond.instanceMethod mX7_seen.1 ∈ tblG := tblG_m4 40 rfl rfl
set_option maxRecDepth 20000 in
theorem sl_X7_seen : Cond.selects mX7_seen.1.cls mX7_seen.1 mX7_seen.1 ∈ tblG := tblG_m4 41 rfl rfl
set_option maxRecDepth 20000 in
theorem im_X7_feed : Cond.instanceMethod mX7_feed.1 ∈ tblG := tblG_m4 52 rfl rfl
set_option maxRecDepth 20000 in
theorem sl_X7_feed : Cond.selects mX7_feed.1.cls mX7_feed.1 mX7_feed.1 ∈ tblG := tblG_m4 53 rfl rfl
set_option maxRecDepth 20000 in
theorem im_X7_clear : Cond.instanceMethod mX7_clear.1 ∈ tblG := tblG_m4 60 rfl rfl
set_option maxRecDepth 20000 in
theorem sl_X7_clear : Cond.selects mX7_clear.1.cls mX7_clear.1 mX7_clear.1 ∈ tblG := tblG_m4 61 rfl rfl
set_option maxRecDepth 20000 in
theorem im_X7_pricking : Cond.instanceMethod mX7_pricking.1 ∈ tblG := tblG_m4 64 rfl rfl
set_option maxRecDepth 20000 in
theorem sl_X7_pricking : Cond.selects mX7_pricking.1.cls mX7_pricking.1 mX7_pricking.1 ∈ tblG := tblG_m4 65 rfl rfl
set_option maxRecDepth 20000 in
theorem im_X7_list : Cond.instanceMethod mX7_list.1 ∈ tblG := tblG_m4 183 rfl rfl
set_option maxRecDepth 20000 in
theorem sl_X7_list : Cond.selects mX7_list.1.cls mX7_list.1 mX7_list.1 ∈ tblG := tblG_m4 184 rfl rfl
set_option maxRecDepth 20000 in
theorem im_X7_set : Cond.instanceMethod mX7_set.1 ∈ tblG := tblG_m4 192 rfl rfl
set_option maxRecDepth 20000 in
theorem sl_X7_set : Cond.selects mX7_set.1.cls mX7_set.1 mX7_set.1 ∈ tblG := tblG_m4 193 rfl rfl
set_option maxRecDepth 20000 in
theorem im_X7_get : Cond.instanceMethod mX7_get.1 ∈ tblG := tblG_m4 200 rfl rfl
set_option maxRecDepth 20000 in
theorem sl_X7_get : Cond.selects mX7_get.1.cls mX7_get.1 mX7_get.1 ∈ tblG := tblG_m4 201 rfl rfl
set_option maxRecDepth 20000 in
theorem im_X7_count : Cond.instanceMethod mX7_count.1 ∈ tblG := tblG_m4 204 rfl rfl
set_option maxRecDepth 20000 in
theorem sl_X7_count : Cond.selects mX7_count.1.cls mX7_count.1 mX7_count.1 ∈ tblG := tblG_m4 205 rfl rfl
set_option maxRecDepth 20000 in
theorem im_X7_image : Cond.instanceMethod mX7_image.1 ∈ tblG := tblG_m4 213 rfl rfl
set_option maxRecDepth 20000 in
theorem sl_X7_image : Cond.selects mX7_image.1.cls mX7_image.1 mX7_image.1 ∈ tblG := tblG_m4 214 rfl rfl
set_option maxRecDepth 20000 in
theorem im_X7_restore : Cond.instanceMethod mX7_restore.1 ∈ tblG := tblG_m4 222 rfl rfl
set_option maxRecDepth 20000 in
theorem sl_X7_restore : Cond.selects mX7_restore.1.cls mX7_restore.1 mX7_restore.1 ∈ tblG := tblG_m4 223 rfl rfl
set_option maxRecDepth 20000 in
theorem sm_X7_isRow : Cond.static mX7_isRow.1 ∈ tblG := tblG_m2 80 rfl rfl
set_option maxRecDepth 20000 in
theorem sm_X7_isStitch : Cond.static mX7_isStitch.1 ∈ tblG := tblG_m2 87 rfl rfl
set_option maxRecDepth 20000 in
theorem im_X7_isThread : Cond.instanceMethod mX7_isThread.1 ∈ tblG := tblG_m3 87 rfl rfl
set_option maxRecDepth 20000 in
theorem sl_X7_isThread : Cond.selects mX7_isThread.1.cls mX7_isThread.1 mX7_isThread.1 ∈ tblG := tblG_p2 1 rfl rfl
set_option maxRecDepth 20000 in
theorem sm_X7_pinBit : Cond.static mX7_pinBit.1 ∈ tblG := tblG_m2 124 rfl rfl
set_option maxRecDepth 20000 in
theorem sm_X7_hasPin : Cond.static mX7_hasPin.1 ∈ tblG := tblG_m2 121 rfl rfl
set_option maxRecDepth 20000 in
theorem im_X7_anyDone : Cond.instanceMethod mX7_anyDone.1 ∈ tblG := tblG_m2 91 rfl rfl
set_option maxRecDepth 20000 in
theorem sl_X7_anyDone : Cond.selects mX7_anyDone.1.cls mX7_anyDone.1 mX7_anyDone.1 ∈ tblG := tblG_p1 0 rfl rfl
set_option maxRecDepth 20000 in
theorem im_X7_depthOf : Cond.instanceMethod mX7_depthOf.1 ∈ tblG := tblG_m2 128 rfl rfl
set_option maxRecDepth 20000 in
theorem sl_X7_depthOf : Cond.selects mX7_depthOf.1.cls mX7_depthOf.1 mX7_depthOf.1 ∈ tblG := tblG_p1 1 rfl rfl
set_option maxRecDepth 20000 in
theorem im_X7_lackingPins : Cond.instanceMethod mX7_lackingPins.1 ∈ tblG := tblG_m3 7 rfl rfl
set_option maxRecDepth 20000 in
theorem sl_X7_lackingPins : Cond.selects mX7_lackingPins.1.cls mX7_lackingPins.1 mX7_lackingPins.1 ∈ tblG := tblG_p1 10 rfl rfl
set_option maxRecDepth 20000 in
theorem im_X7_readyPins : Cond.instanceMethod mX7_readyPins.1 ∈ tblG := tblG_m3 11 rfl rfl
set_option maxRecDepth 20000 in
theorem sl_X7_readyPins : Cond.selects mX7_readyPins.1.cls mX7_readyPins.1 mX7_readyPins.1 ∈ tblG := tblG_p1 11 rfl rfl
set_option maxRecDepth 20000 in
theorem im_X7_workOne : Cond.instanceMethod mX7_workOne.1 ∈ tblG := tblG_m3 26 rfl rfl
set_option maxRecDepth 20000 in
theorem sl_X7_workOne : Cond.selects mX7_workOne.1.cls mX7_workOne.1 mX7_workOne.1 ∈ tblG := tblG_p1 12 rfl rfl
set_option maxRecDepth 20000 in
theorem im_X7_think : Cond.instanceMethod mX7_think.1 ∈ tblG := tblG_m3 112 rfl rfl
set_option maxRecDepth 20000 in
theorem sl_X7_think : Cond.selects mX7_think.1.cls mX7_think.1 mX7_think.1 ∈ tblG := tblG_p2 2 rfl rfl
set_option maxRecDepth 20000 in
theorem sm_X7_slotAndRow : Cond.static mX7_slotAndRow.1 ∈ tblG := tblG_m4 7 rfl rfl
set_option maxRecDepth 20000 in
theorem im_X7_drawPin : Cond.instanceMethod mX7_drawPin.1 ∈ tblG := tblG_m4 17 rfl rfl
set_option maxRecDepth 20000 in
theorem sl_X7_drawPin : Cond.selects mX7_drawPin.1.cls mX7_drawPin.1 mX7_drawPin.1 ∈ tblG := tblG_p3 4 rfl rfl
set_option maxRecDepth 20000 in
theorem im_X7_wouldBeSeen : Cond.instanceMethod mX7_wouldBeSeen.1 ∈ tblG := tblG_m4 45 rfl rfl
set_option maxRecDepth 20000 in
theorem sl_X7_wouldBeSeen : Cond.selects mX7_wouldBeSeen.1.cls mX7_wouldBeSeen.1 mX7_wouldBeSeen.1 ∈ tblG := tblG_p3 5 rfl rfl
set_option maxRecDepth 20000 in
theorem im_X7_tellPart : Cond.instanceMethod mX7_tellPart.1 ∈ tblG := tblG_m4 176 rfl rfl
set_option maxRecDepth 20000 in
theorem sl_X7_tellPart : Cond.selects mX7_tellPart.1.cls mX7_tellPart.1 mX7_tellPart.1 ∈ tblG := tblG_p3 15 rfl rfl
set_option maxRecDepth 20000 in
theorem sm_X7_actCount : Cond.static mX7_actCount.1 ∈ tblG := tblG_m3 33 rfl rfl
set_option maxRecDepth 20000 in
theorem sm_X7_isCrossAct : Cond.static mX7_isCrossAct.1 ∈ tblG := tblG_m3 36 rfl rfl
set_option maxRecDepth 20000 in
theorem sm_X7_actsOf : Cond.static mX7_actsOf.1 ∈ tblG := tblG_m3 98 rfl rfl
set_option maxRecDepth 20000 in
theorem sm_X8_isIn : Cond.static mX8_isIn.1 ∈ tblG := tblG_m5 95 rfl rfl
set_option maxRecDepth 20000 in
theorem im_X8_starts : Cond.instanceMethod mX8_starts.1 ∈ tblG := tblG_m4 234 rfl rfl
set_option maxRecDepth 20000 in
theorem sl_X8_starts : Cond.selects mX8_starts.1.cls mX8_starts.1 mX8_starts.1 ∈ tblG := tblG_p4 0 rfl rfl
set_option maxRecDepth 20000 in
theorem im_X8_isPin : Cond.instanceMethod mX8_isPin.1 ∈ tblG := tblG_m5 117 rfl rfl
set_option maxRecDepth 20000 in
theorem sl_X8_isPin : Cond.selects mX8_isPin.1.cls mX8_isPin.1 mX8_isPin.1 ∈ tblG := tblG_p4 2 rfl rfl
set_option maxRecDepth 20000 in
theorem im_X8_isSlot : Cond.instanceMethod mX8_isSlot.1 ∈ tblG := tblG_m5 129 rfl rfl
set_option maxRecDepth 20000 in
theorem sl_X8_isSlot : Cond.selects mX8_isSlot.1.cls mX8_isSlot.1 mX8_isSlot.1 ∈ tblG := tblG_p4 4 rfl rfl
set_option maxRecDepth 20000 in
theorem sm_X8_copies : Cond.static mX8_copies.1 ∈ tblG := tblG_m6 142 rfl rfl
set_option maxRecDepth 20000 in
theorem im_X8_loom : Cond.instanceMethod mX8_loom.1 ∈ tblG := tblG_m5 89 rfl rfl
set_option maxRecDepth 20000 in
theorem sl_X8_loom : Cond.selects mX8_loom.1.cls mX8_loom.1 mX8_loom.1 ∈ tblG := tblG_m5 90 rfl rfl
set_option maxRecDepth 20000 in
theorem im_X8_shares : Cond.instanceMethod mX8_shares.1 ∈ tblG := tblG_m5 105 rfl rfl
set_option maxRecDepth 20000 in
theorem sl_X8_shares : Cond.selects mX8_shares.1.cls mX8_shares.1 mX8_shares.1 ∈ tblG := tblG_p4 1 rfl rfl
set_option maxRecDepth 20000 in
theorem im_X8_pin : Cond.instanceMethod mX8_pin.1 ∈ tblG := tblG_m5 98 rfl rfl
set_option maxRecDepth 20000 in
theorem sl_X8_pin : Cond.selects mX8_pin.1.cls mX8_pin.1 mX8_pin.1 ∈ tblG := tblG_m5 99 rfl rfl
set_option maxRecDepth 20000 in
theorem im_X8_drop : Cond.instanceMethod mX8_drop.1 ∈ tblG := tblG_m5 108 rfl rfl
set_option maxRecDepth 20000 in
theorem sl_X8_drop : Cond.selects mX8_drop.1.cls mX8_drop.1 mX8_drop.1 ∈ tblG := tblG_m5 109 rfl rfl
set_option maxRecDepth 20000 in
theorem im_X8_becomes : Cond.instanceMethod mX8_becomes.1 ∈ tblG := tblG_m5 121 rfl rfl
set_option maxRecDepth 20000 in
theorem sl_X8_becomes : Cond.selects mX8_becomes.1.cls mX8_becomes.1 mX8_becomes.1 ∈ tblG := tblG_p4 3 rfl rfl
set_option maxRecDepth 20000 in
theorem im_X8_stitch : Cond.instanceMethod mX8_stitch.1 ∈ tblG := tblG_m5 112 rfl rfl
set_option maxRecDepth 20000 in
theorem sl_X8_stitch : Cond.selects mX8_stitch.1.cls mX8_stitch.1 mX8_stitch.1 ∈ tblG := tblG_m5 113 rfl rfl
set_option maxRecDepth 20000 in
theorem im_X8_fill : Cond.instanceMethod mX8_fill.1 ∈ tblG := tblG_m5 124 rfl rfl
set_option maxRecDepth 20000 in
theorem sl_X8_fill : Cond.selects mX8_fill.1.cls mX8_fill.1 mX8_fill.1 ∈ tblG := tblG_m5 125 rfl rfl
set_option maxRecDepth 20000 in
theorem im_X8_turn : Cond.instanceMethod mX8_turn.1 ∈ tblG := tblG_m5 132 rfl rfl
set_option maxRecDepth 20000 in
theorem sl_X8_turn : Cond.selects mX8_turn.1.cls mX8_turn.1 mX8_turn.1 ∈ tblG := tblG_m5 133 rfl rfl
set_option maxRecDepth 20000 in
theorem im_X8_isFilled : Cond.instanceMethod mX8_isFilled.1 ∈ tblG := tblG_m5 141 rfl rfl
set_option maxRecDepth 20000 in
theorem sl_X8_isFilled : Cond.selects mX8_isFilled.1.cls mX8_isFilled.1 mX8_isFilled.1 ∈ tblG := tblG_p4 5 rfl rfl
set_option maxRecDepth 20000 in
theorem im_X8_filled : Cond.instanceMethod mX8_filled.1 ∈ tblG := tblG_m5 136 rfl rfl
set_option maxRecDepth 20000 in
theorem sl_X8_filled : Cond.selects mX8_filled.1.cls mX8_filled.1 mX8_filled.1 ∈ tblG := tblG_m5 137 rfl rfl
set_option maxRecDepth 20000 in
theorem im_X8_mirror : Cond.instanceMethod mX8_mirror.1 ∈ tblG := tblG_m5 144 rfl rfl
set_option maxRecDepth 20000 in
theorem sl_X8_mirror : Cond.selects mX8_mirror.1.cls mX8_mirror.1 mX8_mirror.1 ∈ tblG := tblG_m5 145 rfl rfl
set_option maxRecDepth 20000 in
theorem im_X8_hasPin : Cond.instanceMethod mX8_hasPin.1 ∈ tblG := tblG_m5 153 rfl rfl
set_option maxRecDepth 20000 in
theorem sl_X8_hasPin : Cond.selects mX8_hasPin.1.cls mX8_hasPin.1 mX8_hasPin.1 ∈ tblG := tblG_p4 6 rfl rfl
set_option maxRecDepth 20000 in
theorem im_X8_hasTurn : Cond.instanceMethod mX8_hasTurn.1 ∈ tblG := tblG_m5 157 rfl rfl
set_option maxRecDepth 20000 in
theorem sl_X8_hasTurn : Cond.selects mX8_hasTurn.1.cls mX8_hasTurn.1 mX8_hasTurn.1 ∈ tblG := tblG_p4 7 rfl rfl
set_option maxRecDepth 20000 in
theorem im_X8_even : Cond.instanceMethod mX8_even.1 ∈ tblG := tblG_m5 148 rfl rfl
set_option maxRecDepth 20000 in
theorem sl_X8_even : Cond.selects mX8_even.1.cls mX8_even.1 mX8_even.1 ∈ tblG := tblG_m5 149 rfl rfl
set_option maxRecDepth 20000 in
theorem im_X8_ahead : Cond.instanceMethod mX8_ahead.1 ∈ tblG := tblG_m5 173 rfl rfl
set_option maxRecDepth 20000 in
theorem sl_X8_ahead : Cond.selects mX8_ahead.1.cls mX8_ahead.1 mX8_ahead.1 ∈ tblG := tblG_p4 10 rfl rfl
set_option maxRecDepth 20000 in
theorem im_X8_finds : Cond.instanceMethod mX8_finds.1 ∈ tblG := tblG_m5 169 rfl rfl
set_option maxRecDepth 20000 in
theorem sl_X8_finds : Cond.selects mX8_finds.1.cls mX8_finds.1 mX8_finds.1 ∈ tblG := tblG_p4 9 rfl rfl
set_option maxRecDepth 20000 in
theorem im_X8_findsAll : Cond.instanceMethod mX8_findsAll.1 ∈ tblG := tblG_m5 165 rfl rfl
set_option maxRecDepth 20000 in
theorem sl_X8_findsAll : Cond.selects mX8_findsAll.1.cls mX8_findsAll.1 mX8_findsAll.1 ∈ tblG := tblG_p4 8 rfl rfl
set_option maxRecDepth 20000 in
theorem im_X8_lacks : Cond.instanceMethod mX8_lacks.1 ∈ tblG := tblG_m5 178 rfl rfl
set_option maxRecDepth 20000 in
theorem sl_X8_lacks : Cond.selects mX8_lacks.1.cls mX8_lacks.1 mX8_lacks.1 ∈ tblG := tblG_p4 11 rfl rfl
set_option maxRecDepth 20000 in
theorem im_X8_done : Cond.instanceMethod mX8_done.1 ∈ tblG := tblG_m5 195 rfl rfl
set_option maxRecDepth 20000 in
theorem sl_X8_done : Cond.selects mX8_done.1.cls mX8_done.1 mX8_done.1 ∈ tblG := tblG_p4 13 rfl rfl
set_option maxRecDepth 20000 in
theorem im_X8_isReady : Cond.instanceMethod mX8_isReady.1 ∈ tblG := tblG_m5 191 rfl rfl
set_option maxRecDepth 20000 in
theorem sl_X8_isReady : Cond.selects mX8_isReady.1.cls mX8_isReady.1 mX8_isReady.1 ∈ tblG := tblG_p4 12 rfl rfl
set_option maxRecDepth 20000 in
theorem im_X8_of : Cond.instanceMethod mX8_of.1 ∈ tblG := tblG_m5 160 rfl rfl
set_option maxRecDepth 20000 in
theorem sl_X8_of : Cond.selects mX8_of.1.cls mX8_of.1 mX8_of.1 ∈ tblG := tblG_m5 161 rfl rfl
set_option maxRecDepth 20000 in
theorem im_X8_needs : Cond.instanceMethod mX8_needs.1 ∈ tblG := tblG_m5 181 rfl rfl
set_option maxRecDepth 20000 in
theorem sl_X8_needs : Cond.selects mX8_needs.1.cls mX8_needs.1 mX8_needs.1 ∈ tblG := tblG_m5 182 rfl rfl
set_option maxRecDepth 20000 in
theorem im_X8_pins : Cond.instanceMethod mX8_pins.1 ∈ tblG := tblG_m5 186 rfl rfl
set_option maxRecDepth 20000 in
theorem sl_X8_pins : Cond.selects mX8_pins.1.cls mX8_pins.1 mX8_pins.1 ∈ tblG := tblG_m5 187 rfl rfl
set_option maxRecDepth 20000 in
theorem im_X8_deepest : Cond.instanceMethod mX8_deepest.1 ∈ tblG := tblG_m5 199 rfl rfl
set_option maxRecDepth 20000 in
theorem sl_X8_deepest : Cond.selects mX8_deepest.1.cls mX8_deepest.1 mX8_deepest.1 ∈ tblG := tblG_m5 200 rfl rfl
set_option maxRecDepth 20000 in
theorem im_X8_goes : Cond.instanceMethod mX8_goes.1 ∈ tblG := tblG_m5 220 rfl rfl
set_option maxRecDepth 20000 in
theorem sl_X8_goes : Cond.selects mX8_goes.1.cls mX8_goes.1 mX8_goes.1 ∈ tblG := tblG_p5 1 rfl rfl
set_option maxRecDepth 20000 in
theorem im_X8_crosses : Cond.instanceMethod mX8_crosses.1 ∈ tblG := tblG_m5 216 rfl rfl
set_option maxRecDepth 20000 in
theorem sl_X8_crosses : Cond.selects mX8_crosses.1.cls mX8_crosses.1 mX8_crosses.1 ∈ tblG := tblG_p5 0 rfl rfl
set_option maxRecDepth 20000 in
theorem im_X8_twists : Cond.instanceMethod mX8_twists.1 ∈ tblG := tblG_m5 224 rfl rfl
set_option maxRecDepth 20000 in
theorem sl_X8_twists : Cond.selects mX8_twists.1.cls mX8_twists.1 mX8_twists.1 ∈ tblG := tblG_p5 2 rfl rfl
set_option maxRecDepth 20000 in
theorem im_X8_stitches : Cond.instanceMethod mX8_stitches.1 ∈ tblG := tblG_m5 212 rfl rfl
set_option maxRecDepth 20000 in
theorem sl_X8_stitches : Cond.selects mX8_stitches.1.cls mX8_stitches.1 mX8_stitches.1 ∈ tblG := tblG_p4 15 rfl rfl
set_option maxRecDepth 20000 in
theorem im_X8_works : Cond.instanceMethod mX8_works.1 ∈ tblG := tblG_m5 208 rfl rfl
set_option maxRecDepth 20000 in
theorem sl_X8_works : Cond.selects mX8_works.1.cls mX8_works.1 mX8_works.1 ∈ tblG := tblG_p4 14 rfl rfl
set_option maxRecDepth 20000 in
theorem im_X8_work : Cond.instanceMethod mX8_work.1 ∈ tblG := tblG_m5 203 rfl rfl
set_option maxRecDepth 20000 in
theorem sl_X8_work : Cond.selects mX8_work.1.cls mX8_work.1 mX8_work.1 ∈ tblG := tblG_m5 204 rfl rfl
set_option maxRecDepth 20000 in
theorem im_X8_workAll : Cond.instanceMethod mX8_workAll.1 ∈ tblG := tblG_m5 227 rfl rfl
set_option maxRecDepth 20000 in
theorem sl_X8_workAll : Cond.selects mX8_workAll.1.cls mX8_workAll.1 mX8_workAll.1 ∈ tblG := tblG_m5 228 rfl rfl
set_option maxRecDepth 20000 in
theorem im_X8_undo : Cond.instanceMethod mX8_undo.1 ∈ tblG := tblG_m5 231 rfl rfl
set_option maxRecDepth 20000 in
theorem sl_X8_undo : Cond.selects mX8_undo.1.cls mX8_undo.1 mX8_undo.1 ∈ tblG := tblG_m5 232 rfl rfl
set_option maxRecDepth 20000 in
theorem im_X8_thread : Cond.instanceMethod mX8_thread.1 ∈ tblG := tblG_m5 235 rfl rfl
set_option maxRecDepth 20000 in
theorem sl_X8_thread : Cond.selects mX8_thread.1.cls mX8_thread.1 mX8_thread.1 ∈ tblG := tblG_m5 236 rfl rfl
set_option maxRecDepth 20000 in
theorem im_X8_isThread : Cond.instanceMethod mX8_isThread.1 ∈ tblG := tblG_m6 4 rfl rfl
set_option maxRecDepth 20000 in
theorem sl_X8_isThread : Cond.selects mX8_isThread.1.cls mX8_isThread.1 mX8_isThread.1 ∈ tblG := tblG_p5 3 rfl rfl
set_option maxRecDepth 20000 in
theorem im_X8_where : Cond.instanceMethod mX8_where.1 ∈ tblG := tblG_m5 239 rfl rfl
set_option maxRecDepth 20000 in
theorem sl_X8_where : Cond.selects mX8_where.1.cls mX8_where.1 mX8_where.1 ∈ tblG := tblG_m6 0 rfl rfl
set_option maxRecDepth 20000 in
theorem im_X8_overs : Cond.instanceMethod mX8_overs.1 ∈ tblG := tblG_m6 7 rfl rfl
set_option maxRecDepth 20000 in
theorem sl_X8_overs : Cond.selects mX8_overs.1.cls mX8_overs.1 mX8_overs.1 ∈ tblG := tblG_m6 8 rfl rfl
set_option maxRecDepth 20000 in
theorem im_X8_acts : Cond.instanceMethod mX8_acts.1 ∈ tblG := tblG_m6 11 rfl rfl
set_option maxRecDepth 20000 in
theorem sl_X8_acts : Cond.selects mX8_acts.1.cls mX8_acts.1 mX8_acts.1 ∈ tblG := tblG_m6 12 rfl rfl
set_option maxRecDepth 20000 in
theorem im_X8_hand : Cond.instanceMethod mX8_hand.1 ∈ tblG := tblG_m6 15 rfl rfl
set_option maxRecDepth 20000 in
theorem sl_X8_hand : Cond.selects mX8_hand.1.cls mX8_hand.1 mX8_hand.1 ∈ tblG := tblG_m6 16 rfl rfl
set_option maxRecDepth 20000 in
theorem im_X8_areFew : Cond.instanceMethod mX8_areFew.1 ∈ tblG := tblG_m6 24 rfl rfl
set_option maxRecDepth 20000 in
theorem sl_X8_areFew : Cond.selects mX8_areFew.1.cls mX8_areFew.1 mX8_areFew.1 ∈ tblG := tblG_p5 4 rfl rfl
set_option maxRecDepth 20000 in
theorem im_X8_mayCome : Cond.instanceMethod mX8_mayCome.1 ∈ tblG := tblG_m6 38 rfl rfl
set_option maxRecDepth 20000 in
theorem sl_X8_mayCome : Cond.selects mX8_mayCome.1.cls mX8_mayCome.1 mX8_mayCome.1 ∈ tblG := tblG_p5 7 rfl rfl
set_option maxRecDepth 20000 in
theorem im_X8_oneLacks : Cond.instanceMethod mX8_oneLacks.1 ∈ tblG := tblG_m6 33 rfl rfl
set_option maxRecDepth 20000 in
theorem sl_X8_oneLacks : Cond.selects mX8_oneLacks.1.cls mX8_oneLacks.1 mX8_oneLacks.1 ∈ tblG := tblG_p5 6 rfl rfl
set_option maxRecDepth 20000 in
theorem im_X8_goesBack : Cond.instanceMethod mX8_goesBack.1 ∈ tblG := tblG_m6 29 rfl rfl
set_option maxRecDepth 20000 in
theorem sl_X8_goesBack : Cond.selects mX8_goesBack.1.cls mX8_goesBack.1 mX8_goesBack.1 ∈ tblG := tblG_p5 5 rfl rfl
set_option maxRecDepth 20000 in
theorem im_X8_orders : Cond.instanceMethod mX8_orders.1 ∈ tblG := tblG_m6 19 rfl rfl
set_option maxRecDepth 20000 in
theorem sl_X8_orders : Cond.selects mX8_orders.1.cls mX8_orders.1 mX8_orders.1 ∈ tblG := tblG_m6 20 rfl rfl
set_option maxRecDepth 20000 in
theorem im_X8_order : Cond.instanceMethod mX8_order.1 ∈ tblG := tblG_m6 45 rfl rfl
set_option maxRecDepth 20000 in
theorem sl_X8_order : Cond.selects mX8_order.1.cls mX8_order.1 mX8_order.1 ∈ tblG := tblG_m6 46 rfl rfl
set_option maxRecDepth 20000 in
theorem im_X8_farFrom : Cond.instanceMethod mX8_farFrom.1 ∈ tblG := tblG_m6 58 rfl rfl
set_option maxRecDepth 20000 in
theorem sl_X8_farFrom : Cond.selects mX8_farFrom.1.cls mX8_farFrom.1 mX8_farFrom.1 ∈ tblG := tblG_p5 9 rfl rfl
set_option maxRecDepth 20000 in
theorem im_X8_leastFrom : Cond.instanceMethod mX8_leastFrom.1 ∈ tblG := tblG_m6 54 rfl rfl
set_option maxRecDepth 20000 in
theorem sl_X8_leastFrom : Cond.selects mX8_leastFrom.1.cls mX8_leastFrom.1 mX8_leastFrom.1 ∈ tblG := tblG_p5 8 rfl rfl
set_option maxRecDepth 20000 in
theorem im_X8_travel : Cond.instanceMethod mX8_travel.1 ∈ tblG := tblG_m6 49 rfl rfl
set_option maxRecDepth 20000 in
theorem sl_X8_travel : Cond.selects mX8_travel.1.cls mX8_travel.1 mX8_travel.1 ∈ tblG := tblG_m6 50 rfl rfl
set_option maxRecDepth 20000 in
theorem im_X8_along : Cond.instanceMethod mX8_along.1 ∈ tblG := tblG_m6 61 rfl rfl
set_option maxRecDepth 20000 in
theorem sl_X8_along : Cond.selects mX8_along.1.cls mX8_along.1 mX8_along.1 ∈ tblG := tblG_m6 62 rfl rfl
set_option maxRecDepth 20000 in
theorem im_X8_findsTurns : Cond.instanceMethod mX8_findsTurns.1 ∈ tblG := tblG_m6 74 rfl rfl
set_option maxRecDepth 20000 in
theorem sl_X8_findsTurns : Cond.selects mX8_findsTurns.1.cls mX8_findsTurns.1 mX8_findsTurns.1 ∈ tblG := tblG_p5 11 rfl rfl
set_option maxRecDepth 20000 in
theorem im_X8_joins : Cond.instanceMethod mX8_joins.1 ∈ tblG := tblG_m6 78 rfl rfl
set_option maxRecDepth 20000 in
theorem sl_X8_joins : Cond.selects mX8_joins.1.cls mX8_joins.1 mX8_joins.1 ∈ tblG := tblG_p5 12 rfl rfl
set_option maxRecDepth 20000 in
theorem im_X8_findsPairs : Cond.instanceMethod mX8_findsPairs.1 ∈ tblG := tblG_m6 70 rfl rfl
set_option maxRecDepth 20000 in
theorem sl_X8_findsPairs : Cond.selects mX8_findsPairs.1.cls mX8_findsPairs.1 mX8_findsPairs.1 ∈ tblG := tblG_p5 10 rfl rfl
set_option maxRecDepth 20000 in
theorem im_X8_pairs : Cond.instanceMethod mX8_pairs.1 ∈ tblG := tblG_m6 65 rfl rfl
set_option maxRecDepth 20000 in
theorem sl_X8_pairs : Cond.selects mX8_pairs.1.cls mX8_pairs.1 mX8_pairs.1 ∈ tblG := tblG_m6 66 rfl rfl
set_option maxRecDepth 20000 in
theorem im_X8_hang : Cond.instanceMethod mX8_hang.1 ∈ tblG := tblG_m6 81 rfl rfl
set_option maxRecDepth 20000 in
theorem sl_X8_hang : Cond.selects mX8_hang.1.cls mX8_hang.1 mX8_hang.1 ∈ tblG := tblG_m6 82 rfl rfl
set_option maxRecDepth 20000 in
theorem im_X8_draft : Cond.instanceMethod mX8_draft.1 ∈ tblG := tblG_m6 85 rfl rfl
set_option maxRecDepth 20000 in
theorem sl_X8_draft : Cond.selects mX8_draft.1.cls mX8_draft.1 mX8_draft.1 ∈ tblG := tblG_m6 86 rfl rfl
set_option maxRecDepth 20000 in
theorem im_X8_paper : Cond.instanceMethod mX8_paper.1 ∈ tblG := tblG_m6 89 rfl rfl
set_option maxRecDepth 20000 in
theorem sl_X8_paper : Cond.selects mX8_paper.1.cls mX8_paper.1 mX8_paper.1 ∈ tblG := tblG_m6 90 rfl rfl
set_option maxRecDepth 20000 in
theorem sm_X8_isList : Cond.static mX8_isList.1 ∈ tblG := tblG_m6 97 rfl rfl
set_option maxRecDepth 20000 in
theorem im_X8_lay : Cond.instanceMethod mX8_lay.1 ∈ tblG := tblG_m6 93 rfl rfl
set_option maxRecDepth 20000 in
theorem sl_X8_lay : Cond.selects mX8_lay.1.cls mX8_lay.1 mX8_lay.1 ∈ tblG := tblG_m6 94 rfl rfl
set_option maxRecDepth 20000 in
theorem im_X8_seen : Cond.instanceMethod mX8_seen.1 ∈ tblG := tblG_m6 101 rfl rfl
set_option maxRecDepth 20000 in
theorem sl_X8_seen : Cond.selects mX8_seen.1.cls mX8_seen.1 mX8_seen.1 ∈ tblG := tblG_m6 102 rfl rfl
set_option maxRecDepth 20000 in
theorem im_X8_feed : Cond.instanceMethod mX8_feed.1 ∈ tblG := tblG_m6 105 rfl rfl
set_option maxRecDepth 20000 in
theorem sl_X8_feed : Cond.selects mX8_feed.1.cls mX8_feed.1 mX8_feed.1 ∈ tblG := tblG_m6 106 rfl rfl
set_option maxRecDepth 20000 in
theorem im_X8_clear : Cond.instanceMethod mX8_clear.1 ∈ tblG := tblG_m6 110 rfl rfl
set_option maxRecDepth 20000 in
theorem sl_X8_clear : Cond.selects mX8_clear.1.cls mX8_clear.1 mX8_clear.1 ∈ tblG := tblG_m6 111 rfl rfl
set_option maxRecDepth 20000 in
theorem im_X8_here : Cond.instanceMethod mX8_here.1 ∈ tblG := tblG_m6 127 rfl rfl
set_option maxRecDepth 20000 in
theorem sl_X8_here : Cond.selects mX8_here.1.cls mX8_here.1 mX8_here.1 ∈ tblG := tblG_p5 15 rfl rfl
set_option maxRecDepth 20000 in
theorem im_X8_fails : Cond.instanceMethod mX8_fails.1 ∈ tblG := tblG_m6 131 rfl rfl
set_option maxRecDepth 20000 in
theorem sl_X8_fails : Cond.selects mX8_fails.1.cls mX8_fails.1 mX8_fails.1 ∈ tblG := tblG_p6 0 rfl rfl
set_option maxRecDepth 20000 in
theorem im_X8_blank : Cond.instanceMethod mX8_blank.1 ∈ tblG := tblG_m6 139 rfl rfl
set_option maxRecDepth 20000 in
theorem sl_X8_blank : Cond.selects mX8_blank.1.cls mX8_blank.1 mX8_blank.1 ∈ tblG := tblG_p6 2 rfl rfl
set_option maxRecDepth 20000 in
theorem im_X8_figures : Cond.instanceMethod mX8_figures.1 ∈ tblG := tblG_m6 135 rfl rfl
set_option maxRecDepth 20000 in
theorem sl_X8_figures : Cond.selects mX8_figures.1.cls mX8_figures.1 mX8_figures.1 ∈ tblG := tblG_p6 1 rfl rfl
set_option maxRecDepth 20000 in
theorem im_X8_word : Cond.instanceMethod mX8_word.1 ∈ tblG := tblG_m6 123 rfl rfl
set_option maxRecDepth 20000 in
theorem sl_X8_word : Cond.selects mX8_word.1.cls mX8_word.1 mX8_word.1 ∈ tblG := tblG_p5 14 rfl rfl
set_option maxRecDepth 20000 in
theorem im_X8_reads : Cond.instanceMethod mX8_reads.1 ∈ tblG := tblG_m6 119 rfl rfl
set_option maxRecDepth 20000 in
theorem sl_X8_reads : Cond.selects mX8_reads.1.cls mX8_reads.1 mX8_reads.1 ∈ tblG := tblG_p5 13 rfl rfl
set_option maxRecDepth 20000 in
theorem im_X8_tells : Cond.instanceMethod mX8_tells.1 ∈ tblG := tblG_m6 146 rfl rfl
set_option maxRecDepth 20000 in
theorem sl_X8_tells : Cond.selects mX8_tells.1.cls mX8_tells.1 mX8_tells.1 ∈ tblG := tblG_p6 3 rfl rfl
set_option maxRecDepth 20000 in
theorem im_X8_pricking : Cond.instanceMethod mX8_pricking.1 ∈ tblG := tblG_m6 114 rfl rfl
set_option maxRecDepth 20000 in
theorem sl_X8_pricking : Cond.selects mX8_pricking.1.cls mX8_pricking.1 mX8_pricking.1 ∈ tblG := tblG_m6 115 rfl rfl
set_option maxRecDepth 20000 in
theorem im_X8_list : Cond.instanceMethod mX8_list.1 ∈ tblG := tblG_m6 152 rfl rfl
set_option maxRecDepth 20000 in
theorem sl_X8_list : Cond.selects mX8_list.1.cls mX8_list.1 mX8_list.1 ∈ tblG := tblG_m6 153 rfl rfl
set_option maxRecDepth 20000 in
theorem im_X8_set : Cond.instanceMethod mX8_set.1 ∈ tblG := tblG_m6 156 rfl rfl
set_option maxRecDepth 20000 in
theorem sl_X8_set : Cond.selects mX8_set.1.cls mX8_set.1 mX8_set.1 ∈ tblG := tblG_m6 157 rfl rfl
set_option maxRecDepth 20000 in
theorem im_X8_get : Cond.instanceMethod mX8_get.1 ∈ tblG := tblG_m6 160 rfl rfl
set_option maxRecDepth 20000 in
theorem sl_X8_get : Cond.selects mX8_get.1.cls mX8_get.1 mX8_get.1 ∈ tblG := tblG_m6 161 rfl rfl
set_option maxRecDepth 20000 in
theorem im_X8_count : Cond.instanceMethod mX8_count.1 ∈ tblG := tblG_m6 164 rfl rfl
set_option maxRecDepth 20000 in
theorem sl_X8_count : Cond.selects mX8_count.1.cls mX8_count.1 mX8_count.1 ∈ tblG := tblG_m6 165 rfl rfl
set_option maxRecDepth 20000 in
theorem im_X8_image : Cond.instanceMethod mX8_image.1 ∈ tblG := tblG_m6 168 rfl rfl
set_option maxRecDepth 20000 in
theorem sl_X8_image : Cond.selects mX8_image.1.cls mX8_image.1 mX8_image.1 ∈ tblG := tblG_m6 169 rfl rfl
set_option maxRecDepth 20000 in
theorem im_X8_restore : Cond.instanceMethod mX8_restore.1 ∈ tblG := tblG_m6 172 rfl rfl
set_option maxRecDepth 20000 in
theorem sl_X8_restore : Cond.selects mX8_restore.1.cls mX8_restore.1 mX8_restore.1 ∈ tblG := tblG_m6 173 rfl rfl
set_option maxRecDepth 20000 in
theorem sm_J_bitCount : Cond.static mJ_bitCount.1 ∈ tblG := tblG_m3 204 rfl rfl
set_option maxRecDepth 20000 in
theorem sm_J_fill : Cond.static mJ_fill.1 ∈ tblG := tblG_m2 139 rfl rfl
