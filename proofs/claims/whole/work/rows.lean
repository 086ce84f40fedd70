section
-- ===== PART A: goes FIRST, ahead of the names: the tables' words, and 'selects' of the private methods out of them =====
/-- a private method of a class that the tables say can be made, by its rows of tables_1 -/
def lw_okq (q : MethodName × Nat) : Prop := (q.1.cls ≠ "java/lang/invoke/MethodHandle" ∧ q.1.cls ≠ "java/lang/invoke/VarHandle") ∧ Cond.instantiable q.1.cls q.2 ∈ tables_1 ∧ Cond.privateMethod q.1 ∈ tables_1 ∧ Cond.instanceMethod q.1 ∈ tables_1
theorem lw_p0 : lw_okq (⟨"LacePins", "anyDone", "()Z"⟩, 13) := ⟨⟨by decide +kernel, by decide +kernel⟩, List.mem_of_getElem? (i := 19) (by decide +kernel), List.mem_of_getElem? (i := 326) (by decide +kernel), List.mem_of_getElem? (i := 327) (by decide +kernel)⟩
theorem lw_p1 : lw_okq (⟨"LacePins", "depthOf", "(I)I"⟩, 13) := ⟨⟨by decide +kernel, by decide +kernel⟩, List.mem_of_getElem? (i := 19) (by decide +kernel), List.mem_of_getElem? (i := 363) (by decide +kernel), List.mem_of_getElem? (i := 364) (by decide +kernel)⟩
theorem lw_p2 : lw_okq (⟨"LacePins$Needs", "sortByRow", "(LLacePins$Pattern;)V"⟩, 5) := ⟨⟨by decide +kernel, by decide +kernel⟩, List.mem_of_getElem? (i := 106) (by decide +kernel), List.mem_of_getElem? (i := 371) (by decide +kernel), List.mem_of_getElem? (i := 372) (by decide +kernel)⟩
theorem lw_p3 : lw_okq (⟨"LacePins$Needs", "take", "(II)V"⟩, 5) := ⟨⟨by decide +kernel, by decide +kernel⟩, List.mem_of_getElem? (i := 106) (by decide +kernel), List.mem_of_getElem? (i := 378) (by decide +kernel), List.mem_of_getElem? (i := 379) (by decide +kernel)⟩
theorem lw_p4 : lw_okq (⟨"LacePins$Pattern", "placeOfTurn", "(I)I"⟩, 8) := ⟨⟨by decide +kernel, by decide +kernel⟩, List.mem_of_getElem? (i := 27) (by decide +kernel), List.mem_of_getElem? (i := 423) (by decide +kernel), List.mem_of_getElem? (i := 424) (by decide +kernel)⟩
theorem lw_p5 : lw_okq (⟨"LacePins$Pattern", "removeTurn", "(I)V"⟩, 8) := ⟨⟨by decide +kernel, by decide +kernel⟩, List.mem_of_getElem? (i := 27) (by decide +kernel), List.mem_of_getElem? (i := 427) (by decide +kernel), List.mem_of_getElem? (i := 428) (by decide +kernel)⟩
theorem lw_p6 : lw_okq (⟨"LacePins$Pattern", "sortTurns", "()V"⟩, 8) := ⟨⟨by decide +kernel, by decide +kernel⟩, List.mem_of_getElem? (i := 27) (by decide +kernel), List.mem_of_getElem? (i := 431) (by decide +kernel), List.mem_of_getElem? (i := 432) (by decide +kernel)⟩
theorem lw_p7 : lw_okq (⟨"LacePins$Pattern", "flippedTurn", "(I)I"⟩, 8) := ⟨⟨by decide +kernel, by decide +kernel⟩, List.mem_of_getElem? (i := 27) (by decide +kernel), List.mem_of_getElem? (i := 448) (by decide +kernel), List.mem_of_getElem? (i := 449) (by decide +kernel)⟩
theorem lw_p8 : lw_okq (⟨"LacePins$Pattern", "flippedFill", "()I"⟩, 8) := ⟨⟨by decide +kernel, by decide +kernel⟩, List.mem_of_getElem? (i := 27) (by decide +kernel), List.mem_of_getElem? (i := 452) (by decide +kernel), List.mem_of_getElem? (i := 453) (by decide +kernel)⟩
theorem lw_p9 : lw_okq (⟨"LacePins$Pattern", "hasLike", "(III)Z"⟩, 8) := ⟨⟨by decide +kernel, by decide +kernel⟩, List.mem_of_getElem? (i := 27) (by decide +kernel), List.mem_of_getElem? (i := 464) (by decide +kernel), List.mem_of_getElem? (i := 465) (by decide +kernel)⟩
theorem lw_p10 : lw_okq (⟨"LacePins", "lackingPins", "()J"⟩, 13) := ⟨⟨by decide +kernel, by decide +kernel⟩, List.mem_of_getElem? (i := 19) (by decide +kernel), List.mem_of_getElem? (i := 482) (by decide +kernel), List.mem_of_getElem? (i := 483) (by decide +kernel)⟩
theorem lw_p11 : lw_okq (⟨"LacePins", "readyPins", "()J"⟩, 13) := ⟨⟨by decide +kernel, by decide +kernel⟩, List.mem_of_getElem? (i := 19) (by decide +kernel), List.mem_of_getElem? (i := 486) (by decide +kernel), List.mem_of_getElem? (i := 487) (by decide +kernel)⟩
theorem lw_p12 : lw_okq (⟨"LacePins", "workOne", "(I)V"⟩, 13) := ⟨⟨by decide +kernel, by decide +kernel⟩, List.mem_of_getElem? (i := 19) (by decide +kernel), List.mem_of_getElem? (i := 501) (by decide +kernel), List.mem_of_getElem? (i := 502) (by decide +kernel)⟩
theorem lw_p13 : lw_okq (⟨"LacePins$Bench", "goOver", "(II)V"⟩, 7) := ⟨⟨by decide +kernel, by decide +kernel⟩, List.mem_of_getElem? (i := 73) (by decide +kernel), List.mem_of_getElem? (i := 515) (by decide +kernel), List.mem_of_getElem? (i := 516) (by decide +kernel)⟩
theorem lw_p14 : lw_okq (⟨"LacePins$Bench", "changePlaces", "(II)V"⟩, 7) := ⟨⟨by decide +kernel, by decide +kernel⟩, List.mem_of_getElem? (i := 73) (by decide +kernel), List.mem_of_getElem? (i := 519) (by decide +kernel), List.mem_of_getElem? (i := 520) (by decide +kernel)⟩
theorem lw_p15 : lw_okq (⟨"LacePins$Pattern", "isAbove", "(II)Z"⟩, 8) := ⟨⟨by decide +kernel, by decide +kernel⟩, List.mem_of_getElem? (i := 27) (by decide +kernel), List.mem_of_getElem? (i := 533) (by decide +kernel), List.mem_of_getElem? (i := 534) (by decide +kernel)⟩
def lw_privs_1 : List (MethodName × Nat) := [(⟨"LacePins", "anyDone", "()Z"⟩, 13), (⟨"LacePins", "depthOf", "(I)I"⟩, 13), (⟨"LacePins$Needs", "sortByRow", "(LLacePins$Pattern;)V"⟩, 5), (⟨"LacePins$Needs", "take", "(II)V"⟩, 5), (⟨"LacePins$Pattern", "placeOfTurn", "(I)I"⟩, 8), (⟨"LacePins$Pattern", "removeTurn", "(I)V"⟩, 8), (⟨"LacePins$Pattern", "sortTurns", "()V"⟩, 8), (⟨"LacePins$Pattern", "flippedTurn", "(I)I"⟩, 8), (⟨"LacePins$Pattern", "flippedFill", "()I"⟩, 8), (⟨"LacePins$Pattern", "hasLike", "(III)Z"⟩, 8), (⟨"LacePins", "lackingPins", "()J"⟩, 13), (⟨"LacePins", "readyPins", "()J"⟩, 13), (⟨"LacePins", "workOne", "(I)V"⟩, 13), (⟨"LacePins$Bench", "goOver", "(II)V"⟩, 7), (⟨"LacePins$Bench", "changePlaces", "(II)V"⟩, 7), (⟨"LacePins$Pattern", "isAbove", "(II)Z"⟩, 8)]
theorem lw_r1 : ∀ q ∈ lw_privs_1, lw_okq q := List.forall_mem_cons.mpr ⟨lw_p0, List.forall_mem_cons.mpr ⟨lw_p1, List.forall_mem_cons.mpr ⟨lw_p2, List.forall_mem_cons.mpr ⟨lw_p3, List.forall_mem_cons.mpr ⟨lw_p4, List.forall_mem_cons.mpr ⟨lw_p5, List.forall_mem_cons.mpr ⟨lw_p6, List.forall_mem_cons.mpr ⟨lw_p7, List.forall_mem_cons.mpr ⟨lw_p8, List.forall_mem_cons.mpr ⟨lw_p9, List.forall_mem_cons.mpr ⟨lw_p10, List.forall_mem_cons.mpr ⟨lw_p11, List.forall_mem_cons.mpr ⟨lw_p12, List.forall_mem_cons.mpr ⟨lw_p13, List.forall_mem_cons.mpr ⟨lw_p14, List.forall_mem_cons.mpr ⟨lw_p15, fun _ h => absurd h List.not_mem_nil⟩⟩⟩⟩⟩⟩⟩⟩⟩⟩⟩⟩⟩⟩⟩⟩
theorem lw_p16 : lw_okq (⟨"LacePins$Bench", "goBack", "(II)V"⟩, 7) := ⟨⟨by decide +kernel, by decide +kernel⟩, List.mem_of_getElem? (i := 73) (by decide +kernel), List.mem_of_getElem? (i := 549) (by decide +kernel), List.mem_of_getElem? (i := 550) (by decide +kernel)⟩
theorem lw_p17 : lw_okq (⟨"LacePins", "isThread", "(I)Z"⟩, 13) := ⟨⟨by decide +kernel, by decide +kernel⟩, List.mem_of_getElem? (i := 19) (by decide +kernel), List.mem_of_getElem? (i := 562) (by decide +kernel), List.mem_of_getElem? (i := 563) (by decide +kernel)⟩
theorem lw_p18 : lw_okq (⟨"LacePins", "think", "()Z"⟩, 13) := ⟨⟨by decide +kernel, by decide +kernel⟩, List.mem_of_getElem? (i := 19) (by decide +kernel), List.mem_of_getElem? (i := 587) (by decide +kernel), List.mem_of_getElem? (i := 588) (by decide +kernel)⟩
theorem lw_p19 : lw_okq (⟨"LacePins$Thought", "amongLeft", "(J)I"⟩, 8) := ⟨⟨by decide +kernel, by decide +kernel⟩, List.mem_of_getElem? (i := 133) (by decide +kernel), List.mem_of_getElem? (i := 596) (by decide +kernel), List.mem_of_getElem? (i := 597) (by decide +kernel)⟩
theorem lw_p20 : lw_okq (⟨"LacePins$Thought", "markMet", "()V"⟩, 8) := ⟨⟨by decide +kernel, by decide +kernel⟩, List.mem_of_getElem? (i := 133) (by decide +kernel), List.mem_of_getElem? (i := 600) (by decide +kernel), List.mem_of_getElem? (i := 601) (by decide +kernel)⟩
theorem lw_p21 : lw_okq (⟨"LacePins$Thought", "wholeSet", "()I"⟩, 8) := ⟨⟨by decide +kernel, by decide +kernel⟩, List.mem_of_getElem? (i := 133) (by decide +kernel), List.mem_of_getElem? (i := 604) (by decide +kernel), List.mem_of_getElem? (i := 605) (by decide +kernel)⟩
theorem lw_p22 : lw_okq (⟨"LacePins$Thought", "comesNext", "(II)Z"⟩, 8) := ⟨⟨by decide +kernel, by decide +kernel⟩, List.mem_of_getElem? (i := 133) (by decide +kernel), List.mem_of_getElem? (i := 608) (by decide +kernel), List.mem_of_getElem? (i := 609) (by decide +kernel)⟩
theorem lw_p23 : lw_okq (⟨"LacePins$Thought", "leastFrom", "(II)I"⟩, 8) := ⟨⟨by decide +kernel, by decide +kernel⟩, List.mem_of_getElem? (i := 133) (by decide +kernel), List.mem_of_getElem? (i := 636) (by decide +kernel), List.mem_of_getElem? (i := 637) (by decide +kernel)⟩
theorem lw_p24 : lw_okq (⟨"LacePins$Thought", "travelBy", "(III)I"⟩, 8) := ⟨⟨by decide +kernel, by decide +kernel⟩, List.mem_of_getElem? (i := 133) (by decide +kernel), List.mem_of_getElem? (i := 640) (by decide +kernel), List.mem_of_getElem? (i := 641) (by decide +kernel)⟩
theorem lw_p25 : lw_okq (⟨"LacePins$Thought", "firstBy", "(III)I"⟩, 8) := ⟨⟨by decide +kernel, by decide +kernel⟩, List.mem_of_getElem? (i := 133) (by decide +kernel), List.mem_of_getElem? (i := 655) (by decide +kernel), List.mem_of_getElem? (i := 656) (by decide +kernel)⟩
theorem lw_p26 : lw_okq (⟨"LacePins$Joins", "sortOut", "(LLacePins$Pattern;)V"⟩, 8) := ⟨⟨by decide +kernel, by decide +kernel⟩, List.mem_of_getElem? (i := 168) (by decide +kernel), List.mem_of_getElem? (i := 667) (by decide +kernel), List.mem_of_getElem? (i := 668) (by decide +kernel)⟩
theorem lw_p27 : lw_okq (⟨"LacePins$Joins", "weigh", "()V"⟩, 8) := ⟨⟨by decide +kernel, by decide +kernel⟩, List.mem_of_getElem? (i := 168) (by decide +kernel), List.mem_of_getElem? (i := 675) (by decide +kernel), List.mem_of_getElem? (i := 676) (by decide +kernel)⟩
theorem lw_p28 : lw_okq (⟨"LacePins$Joins", "bestOf", "(II)I"⟩, 8) := ⟨⟨by decide +kernel, by decide +kernel⟩, List.mem_of_getElem? (i := 168) (by decide +kernel), List.mem_of_getElem? (i := 685) (by decide +kernel), List.mem_of_getElem? (i := 686) (by decide +kernel)⟩
theorem lw_p29 : lw_okq (⟨"LacePins$Joins", "bestFrom", "(II)I"⟩, 8) := ⟨⟨by decide +kernel, by decide +kernel⟩, List.mem_of_getElem? (i := 168) (by decide +kernel), List.mem_of_getElem? (i := 689) (by decide +kernel), List.mem_of_getElem? (i := 690) (by decide +kernel)⟩
theorem lw_p30 : lw_okq (⟨"LacePins$Joins", "mayJoin", "(III)Z"⟩, 8) := ⟨⟨by decide +kernel, by decide +kernel⟩, List.mem_of_getElem? (i := 168) (by decide +kernel), List.mem_of_getElem? (i := 693) (by decide +kernel), List.mem_of_getElem? (i := 694) (by decide +kernel)⟩
theorem lw_p31 : lw_okq (⟨"LacePins$Joins", "worthOf", "(III)I"⟩, 8) := ⟨⟨by decide +kernel, by decide +kernel⟩, List.mem_of_getElem? (i := 168) (by decide +kernel), List.mem_of_getElem? (i := 698) (by decide +kernel), List.mem_of_getElem? (i := 699) (by decide +kernel)⟩
def lw_privs_2 : List (MethodName × Nat) := [(⟨"LacePins$Bench", "goBack", "(II)V"⟩, 7), (⟨"LacePins", "isThread", "(I)Z"⟩, 13), (⟨"LacePins", "think", "()Z"⟩, 13), (⟨"LacePins$Thought", "amongLeft", "(J)I"⟩, 8), (⟨"LacePins$Thought", "markMet", "()V"⟩, 8), (⟨"LacePins$Thought", "wholeSet", "()I"⟩, 8), (⟨"LacePins$Thought", "comesNext", "(II)Z"⟩, 8), (⟨"LacePins$Thought", "leastFrom", "(II)I"⟩, 8), (⟨"LacePins$Thought", "travelBy", "(III)I"⟩, 8), (⟨"LacePins$Thought", "firstBy", "(III)I"⟩, 8), (⟨"LacePins$Joins", "sortOut", "(LLacePins$Pattern;)V"⟩, 8), (⟨"LacePins$Joins", "weigh", "()V"⟩, 8), (⟨"LacePins$Joins", "bestOf", "(II)I"⟩, 8), (⟨"LacePins$Joins", "bestFrom", "(II)I"⟩, 8), (⟨"LacePins$Joins", "mayJoin", "(III)Z"⟩, 8), (⟨"LacePins$Joins", "worthOf", "(III)I"⟩, 8)]
theorem lw_r2 : ∀ q ∈ lw_privs_2, lw_okq q := List.forall_mem_cons.mpr ⟨lw_p16, List.forall_mem_cons.mpr ⟨lw_p17, List.forall_mem_cons.mpr ⟨lw_p18, List.forall_mem_cons.mpr ⟨lw_p19, List.forall_mem_cons.mpr ⟨lw_p20, List.forall_mem_cons.mpr ⟨lw_p21, List.forall_mem_cons.mpr ⟨lw_p22, List.forall_mem_cons.mpr ⟨lw_p23, List.forall_mem_cons.mpr ⟨lw_p24, List.forall_mem_cons.mpr ⟨lw_p25, List.forall_mem_cons.mpr ⟨lw_p26, List.forall_mem_cons.mpr ⟨lw_p27, List.forall_mem_cons.mpr ⟨lw_p28, List.forall_mem_cons.mpr ⟨lw_p29, List.forall_mem_cons.mpr ⟨lw_p30, List.forall_mem_cons.mpr ⟨lw_p31, fun _ h => absurd h List.not_mem_nil⟩⟩⟩⟩⟩⟩⟩⟩⟩⟩⟩⟩⟩⟩⟩⟩
theorem lw_p32 : lw_okq (⟨"LacePins$Joins", "difference", "(II)I"⟩, 8) := ⟨⟨by decide +kernel, by decide +kernel⟩, List.mem_of_getElem? (i := 168) (by decide +kernel), List.mem_of_getElem? (i := 702) (by decide +kernel), List.mem_of_getElem? (i := 703) (by decide +kernel)⟩
theorem lw_p33 : lw_okq (⟨"LacePins$Joins", "choose", "()V"⟩, 8) := ⟨⟨by decide +kernel, by decide +kernel⟩, List.mem_of_getElem? (i := 168) (by decide +kernel), List.mem_of_getElem? (i := 709) (by decide +kernel), List.mem_of_getElem? (i := 710) (by decide +kernel)⟩
theorem lw_p34 : lw_okq (⟨"LacePins$Joins", "firstOut", "(II)I"⟩, 8) := ⟨⟨by decide +kernel, by decide +kernel⟩, List.mem_of_getElem? (i := 168) (by decide +kernel), List.mem_of_getElem? (i := 713) (by decide +kernel), List.mem_of_getElem? (i := 714) (by decide +kernel)⟩
theorem lw_p35 : lw_okq (⟨"LacePins", "drawPin", "(I)V"⟩, 13) := ⟨⟨by decide +kernel, by decide +kernel⟩, List.mem_of_getElem? (i := 19) (by decide +kernel), List.mem_of_getElem? (i := 731) (by decide +kernel), List.mem_of_getElem? (i := 732) (by decide +kernel)⟩
theorem lw_p36 : lw_okq (⟨"LacePins", "wouldBeSeen", "(IIII)Z"⟩, 13) := ⟨⟨by decide +kernel, by decide +kernel⟩, List.mem_of_getElem? (i := 19) (by decide +kernel), List.mem_of_getElem? (i := 759) (by decide +kernel), List.mem_of_getElem? (i := 760) (by decide +kernel)⟩
theorem lw_p37 : lw_okq (⟨"LacePins$Tape", "readPart", "(I)V"⟩, 9) := ⟨⟨by decide +kernel, by decide +kernel⟩, List.mem_of_getElem? (i := 205) (by decide +kernel), List.mem_of_getElem? (i := 787) (by decide +kernel), List.mem_of_getElem? (i := 788) (by decide +kernel)⟩
theorem lw_p38 : lw_okq (⟨"LacePins$Tape", "readKind", "()I"⟩, 9) := ⟨⟨by decide +kernel, by decide +kernel⟩, List.mem_of_getElem? (i := 205) (by decide +kernel), List.mem_of_getElem? (i := 791) (by decide +kernel), List.mem_of_getElem? (i := 792) (by decide +kernel)⟩
theorem lw_p39 : lw_okq (⟨"LacePins$Tape", "skipWord", "()V"⟩, 9) := ⟨⟨by decide +kernel, by decide +kernel⟩, List.mem_of_getElem? (i := 205) (by decide +kernel), List.mem_of_getElem? (i := 795) (by decide +kernel), List.mem_of_getElem? (i := 796) (by decide +kernel)⟩
theorem lw_p40 : lw_okq (⟨"LacePins$Tape", "isWord", "(ILjava/lang/String;)Z"⟩, 9) := ⟨⟨by decide +kernel, by decide +kernel⟩, List.mem_of_getElem? (i := 205) (by decide +kernel), List.mem_of_getElem? (i := 800) (by decide +kernel), List.mem_of_getElem? (i := 801) (by decide +kernel)⟩
theorem lw_p41 : lw_okq (⟨"LacePins$Tape", "readNumber", "()I"⟩, 9) := ⟨⟨by decide +kernel, by decide +kernel⟩, List.mem_of_getElem? (i := 205) (by decide +kernel), List.mem_of_getElem? (i := 855) (by decide +kernel), List.mem_of_getElem? (i := 856) (by decide +kernel)⟩
theorem lw_p42 : lw_okq (⟨"LacePins$Tape", "expect", "(I)V"⟩, 9) := ⟨⟨by decide +kernel, by decide +kernel⟩, List.mem_of_getElem? (i := 205) (by decide +kernel), List.mem_of_getElem? (i := 859) (by decide +kernel), List.mem_of_getElem? (i := 860) (by decide +kernel)⟩
theorem lw_p43 : lw_okq (⟨"LacePins$Tape", "isFigureHere", "()Z"⟩, 9) := ⟨⟨by decide +kernel, by decide +kernel⟩, List.mem_of_getElem? (i := 205) (by decide +kernel), List.mem_of_getElem? (i := 863) (by decide +kernel), List.mem_of_getElem? (i := 864) (by decide +kernel)⟩
theorem lw_p44 : lw_okq (⟨"LacePins$Tape", "readFigure", "()I"⟩, 9) := ⟨⟨by decide +kernel, by decide +kernel⟩, List.mem_of_getElem? (i := 205) (by decide +kernel), List.mem_of_getElem? (i := 867) (by decide +kernel), List.mem_of_getElem? (i := 868) (by decide +kernel)⟩
theorem lw_p45 : lw_okq (⟨"LacePins$Tape", "readStitch", "()I"⟩, 9) := ⟨⟨by decide +kernel, by decide +kernel⟩, List.mem_of_getElem? (i := 205) (by decide +kernel), List.mem_of_getElem? (i := 871) (by decide +kernel), List.mem_of_getElem? (i := 872) (by decide +kernel)⟩
theorem lw_p46 : lw_okq (⟨"LacePins", "tellPart", "(I)I"⟩, 13) := ⟨⟨by decide +kernel, by decide +kernel⟩, List.mem_of_getElem? (i := 19) (by decide +kernel), List.mem_of_getElem? (i := 890) (by decide +kernel), List.mem_of_getElem? (i := 891) (by decide +kernel)⟩
theorem lw_p47 : lw_okq (⟨"LacePinsModel", "starts", "(I)V"⟩, 30) := ⟨⟨by decide +kernel, by decide +kernel⟩, List.mem_of_getElem? (i := 941) (by decide +kernel), List.mem_of_getElem? (i := 948) (by decide +kernel), List.mem_of_getElem? (i := 949) (by decide +kernel)⟩
def lw_privs_3 : List (MethodName × Nat) := [(⟨"LacePins$Joins", "difference", "(II)I"⟩, 8), (⟨"LacePins$Joins", "choose", "()V"⟩, 8), (⟨"LacePins$Joins", "firstOut", "(II)I"⟩, 8), (⟨"LacePins", "drawPin", "(I)V"⟩, 13), (⟨"LacePins", "wouldBeSeen", "(IIII)Z"⟩, 13), (⟨"LacePins$Tape", "readPart", "(I)V"⟩, 9), (⟨"LacePins$Tape", "readKind", "()I"⟩, 9), (⟨"LacePins$Tape", "skipWord", "()V"⟩, 9), (⟨"LacePins$Tape", "isWord", "(ILjava/lang/String;)Z"⟩, 9), (⟨"LacePins$Tape", "readNumber", "()I"⟩, 9), (⟨"LacePins$Tape", "expect", "(I)V"⟩, 9), (⟨"LacePins$Tape", "isFigureHere", "()Z"⟩, 9), (⟨"LacePins$Tape", "readFigure", "()I"⟩, 9), (⟨"LacePins$Tape", "readStitch", "()I"⟩, 9), (⟨"LacePins", "tellPart", "(I)I"⟩, 13), (⟨"LacePinsModel", "starts", "(I)V"⟩, 30)]
theorem lw_r3 : ∀ q ∈ lw_privs_3, lw_okq q := List.forall_mem_cons.mpr ⟨lw_p32, List.forall_mem_cons.mpr ⟨lw_p33, List.forall_mem_cons.mpr ⟨lw_p34, List.forall_mem_cons.mpr ⟨lw_p35, List.forall_mem_cons.mpr ⟨lw_p36, List.forall_mem_cons.mpr ⟨lw_p37, List.forall_mem_cons.mpr ⟨lw_p38, List.forall_mem_cons.mpr ⟨lw_p39, List.forall_mem_cons.mpr ⟨lw_p40, List.forall_mem_cons.mpr ⟨lw_p41, List.forall_mem_cons.mpr ⟨lw_p42, List.forall_mem_cons.mpr ⟨lw_p43, List.forall_mem_cons.mpr ⟨lw_p44, List.forall_mem_cons.mpr ⟨lw_p45, List.forall_mem_cons.mpr ⟨lw_p46, List.forall_mem_cons.mpr ⟨lw_p47, fun _ h => absurd h List.not_mem_nil⟩⟩⟩⟩⟩⟩⟩⟩⟩⟩⟩⟩⟩⟩⟩⟩
theorem lw_p48 : lw_okq (⟨"LacePinsModel", "shares", "(II)Z"⟩, 30) := ⟨⟨by decide +kernel, by decide +kernel⟩, List.mem_of_getElem? (i := 941) (by decide +kernel), List.mem_of_getElem? (i := 1059) (by decide +kernel), List.mem_of_getElem? (i := 1060) (by decide +kernel)⟩
theorem lw_p49 : lw_okq (⟨"LacePinsModel", "isPin", "(I)Z"⟩, 30) := ⟨⟨by decide +kernel, by decide +kernel⟩, List.mem_of_getElem? (i := 941) (by decide +kernel), List.mem_of_getElem? (i := 1071) (by decide +kernel), List.mem_of_getElem? (i := 1072) (by decide +kernel)⟩
theorem lw_p50 : lw_okq (⟨"LacePinsModel", "becomes", "(II)I"⟩, 30) := ⟨⟨by decide +kernel, by decide +kernel⟩, List.mem_of_getElem? (i := 941) (by decide +kernel), List.mem_of_getElem? (i := 1075) (by decide +kernel), List.mem_of_getElem? (i := 1076) (by decide +kernel)⟩
theorem lw_p51 : lw_okq (⟨"LacePinsModel", "isSlot", "(I)Z"⟩, 30) := ⟨⟨by decide +kernel, by decide +kernel⟩, List.mem_of_getElem? (i := 941) (by decide +kernel), List.mem_of_getElem? (i := 1083) (by decide +kernel), List.mem_of_getElem? (i := 1084) (by decide +kernel)⟩
theorem lw_p52 : lw_okq (⟨"LacePinsModel", "isFilled", "(II)Z"⟩, 30) := ⟨⟨by decide +kernel, by decide +kernel⟩, List.mem_of_getElem? (i := 941) (by decide +kernel), List.mem_of_getElem? (i := 1095) (by decide +kernel), List.mem_of_getElem? (i := 1096) (by decide +kernel)⟩
theorem lw_p53 : lw_okq (⟨"LacePinsModel", "hasPin", "(III)Z"⟩, 30) := ⟨⟨by decide +kernel, by decide +kernel⟩, List.mem_of_getElem? (i := 941) (by decide +kernel), List.mem_of_getElem? (i := 1107) (by decide +kernel), List.mem_of_getElem? (i := 1108) (by decide +kernel)⟩
theorem lw_p54 : lw_okq (⟨"LacePinsModel", "hasTurn", "(I)Z"⟩, 30) := ⟨⟨by decide +kernel, by decide +kernel⟩, List.mem_of_getElem? (i := 941) (by decide +kernel), List.mem_of_getElem? (i := 1111) (by decide +kernel), List.mem_of_getElem? (i := 1112) (by decide +kernel)⟩
theorem lw_p55 : lw_okq (⟨"LacePinsModel", "findsAll", "()V"⟩, 30) := ⟨⟨by decide +kernel, by decide +kernel⟩, List.mem_of_getElem? (i := 941) (by decide +kernel), List.mem_of_getElem? (i := 1119) (by decide +kernel), List.mem_of_getElem? (i := 1120) (by decide +kernel)⟩
theorem lw_p56 : lw_okq (⟨"LacePinsModel", "finds", "(I)V"⟩, 30) := ⟨⟨by decide +kernel, by decide +kernel⟩, List.mem_of_getElem? (i := 941) (by decide +kernel), List.mem_of_getElem? (i := 1123) (by decide +kernel), List.mem_of_getElem? (i := 1124) (by decide +kernel)⟩
theorem lw_p57 : lw_okq (⟨"LacePinsModel", "ahead", "(II)I"⟩, 30) := ⟨⟨by decide +kernel, by decide +kernel⟩, List.mem_of_getElem? (i := 941) (by decide +kernel), List.mem_of_getElem? (i := 1127) (by decide +kernel), List.mem_of_getElem? (i := 1128) (by decide +kernel)⟩
theorem lw_p58 : lw_okq (⟨"LacePinsModel", "lacks", "(I)Z"⟩, 30) := ⟨⟨by decide +kernel, by decide +kernel⟩, List.mem_of_getElem? (i := 941) (by decide +kernel), List.mem_of_getElem? (i := 1132) (by decide +kernel), List.mem_of_getElem? (i := 1133) (by decide +kernel)⟩
theorem lw_p59 : lw_okq (⟨"LacePinsModel", "isReady", "(I)Z"⟩, 30) := ⟨⟨by decide +kernel, by decide +kernel⟩, List.mem_of_getElem? (i := 941) (by decide +kernel), List.mem_of_getElem? (i := 1145) (by decide +kernel), List.mem_of_getElem? (i := 1146) (by decide +kernel)⟩
theorem lw_p60 : lw_okq (⟨"LacePinsModel", "done", "()J"⟩, 30) := ⟨⟨by decide +kernel, by decide +kernel⟩, List.mem_of_getElem? (i := 941) (by decide +kernel), List.mem_of_getElem? (i := 1149) (by decide +kernel), List.mem_of_getElem? (i := 1150) (by decide +kernel)⟩
theorem lw_p61 : lw_okq (⟨"LacePinsModel", "works", "(I)V"⟩, 30) := ⟨⟨by decide +kernel, by decide +kernel⟩, List.mem_of_getElem? (i := 941) (by decide +kernel), List.mem_of_getElem? (i := 1162) (by decide +kernel), List.mem_of_getElem? (i := 1163) (by decide +kernel)⟩
theorem lw_p62 : lw_okq (⟨"LacePinsModel", "stitches", "(IIZ)V"⟩, 30) := ⟨⟨by decide +kernel, by decide +kernel⟩, List.mem_of_getElem? (i := 941) (by decide +kernel), List.mem_of_getElem? (i := 1166) (by decide +kernel), List.mem_of_getElem? (i := 1167) (by decide +kernel)⟩
theorem lw_p63 : lw_okq (⟨"LacePinsModel", "crosses", "(IZ)V"⟩, 30) := ⟨⟨by decide +kernel, by decide +kernel⟩, List.mem_of_getElem? (i := 941) (by decide +kernel), List.mem_of_getElem? (i := 1170) (by decide +kernel), List.mem_of_getElem? (i := 1171) (by decide +kernel)⟩
def lw_privs_4 : List (MethodName × Nat) := [(⟨"LacePinsModel", "shares", "(II)Z"⟩, 30), (⟨"LacePinsModel", "isPin", "(I)Z"⟩, 30), (⟨"LacePinsModel", "becomes", "(II)I"⟩, 30), (⟨"LacePinsModel", "isSlot", "(I)Z"⟩, 30), (⟨"LacePinsModel", "isFilled", "(II)Z"⟩, 30), (⟨"LacePinsModel", "hasPin", "(III)Z"⟩, 30), (⟨"LacePinsModel", "hasTurn", "(I)Z"⟩, 30), (⟨"LacePinsModel", "findsAll", "()V"⟩, 30), (⟨"LacePinsModel", "finds", "(I)V"⟩, 30), (⟨"LacePinsModel", "ahead", "(II)I"⟩, 30), (⟨"LacePinsModel", "lacks", "(I)Z"⟩, 30), (⟨"LacePinsModel", "isReady", "(I)Z"⟩, 30), (⟨"LacePinsModel", "done", "()J"⟩, 30), (⟨"LacePinsModel", "works", "(I)V"⟩, 30), (⟨"LacePinsModel", "stitches", "(IIZ)V"⟩, 30), (⟨"LacePinsModel", "crosses", "(IZ)V"⟩, 30)]
theorem lw_r4 : ∀ q ∈ lw_privs_4, lw_okq q := List.forall_mem_cons.mpr ⟨lw_p48, List.forall_mem_cons.mpr ⟨lw_p49, List.forall_mem_cons.mpr ⟨lw_p50, List.forall_mem_cons.mpr ⟨lw_p51, List.forall_mem_cons.mpr ⟨lw_p52, List.forall_mem_cons.mpr ⟨lw_p53, List.forall_mem_cons.mpr ⟨lw_p54, List.forall_mem_cons.mpr ⟨lw_p55, List.forall_mem_cons.mpr ⟨lw_p56, List.forall_mem_cons.mpr ⟨lw_p57, List.forall_mem_cons.mpr ⟨lw_p58, List.forall_mem_cons.mpr ⟨lw_p59, List.forall_mem_cons.mpr ⟨lw_p60, List.forall_mem_cons.mpr ⟨lw_p61, List.forall_mem_cons.mpr ⟨lw_p62, List.forall_mem_cons.mpr ⟨lw_p63, fun _ h => absurd h List.not_mem_nil⟩⟩⟩⟩⟩⟩⟩⟩⟩⟩⟩⟩⟩⟩⟩⟩
theorem lw_p64 : lw_okq (⟨"LacePinsModel", "goes", "(IIZ)V"⟩, 30) := ⟨⟨by decide +kernel, by decide +kernel⟩, List.mem_of_getElem? (i := 941) (by decide +kernel), List.mem_of_getElem? (i := 1174) (by decide +kernel), List.mem_of_getElem? (i := 1175) (by decide +kernel)⟩
theorem lw_p65 : lw_okq (⟨"LacePinsModel", "twists", "(IZ)V"⟩, 30) := ⟨⟨by decide +kernel, by decide +kernel⟩, List.mem_of_getElem? (i := 941) (by decide +kernel), List.mem_of_getElem? (i := 1178) (by decide +kernel), List.mem_of_getElem? (i := 1179) (by decide +kernel)⟩
theorem lw_p66 : lw_okq (⟨"LacePinsModel", "isThread", "(I)Z"⟩, 30) := ⟨⟨by decide +kernel, by decide +kernel⟩, List.mem_of_getElem? (i := 941) (by decide +kernel), List.mem_of_getElem? (i := 1198) (by decide +kernel), List.mem_of_getElem? (i := 1199) (by decide +kernel)⟩
theorem lw_p67 : lw_okq (⟨"LacePinsModel", "areFew", "()Z"⟩, 30) := ⟨⟨by decide +kernel, by decide +kernel⟩, List.mem_of_getElem? (i := 941) (by decide +kernel), List.mem_of_getElem? (i := 1218) (by decide +kernel), List.mem_of_getElem? (i := 1219) (by decide +kernel)⟩
theorem lw_p68 : lw_okq (⟨"LacePinsModel", "goesBack", "()V"⟩, 30) := ⟨⟨by decide +kernel, by decide +kernel⟩, List.mem_of_getElem? (i := 941) (by decide +kernel), List.mem_of_getElem? (i := 1223) (by decide +kernel), List.mem_of_getElem? (i := 1224) (by decide +kernel)⟩
theorem lw_p69 : lw_okq (⟨"LacePinsModel", "oneLacks", "()Z"⟩, 30) := ⟨⟨by decide +kernel, by decide +kernel⟩, List.mem_of_getElem? (i := 941) (by decide +kernel), List.mem_of_getElem? (i := 1227) (by decide +kernel), List.mem_of_getElem? (i := 1228) (by decide +kernel)⟩
theorem lw_p70 : lw_okq (⟨"LacePinsModel", "mayCome", "(II)Z"⟩, 30) := ⟨⟨by decide +kernel, by decide +kernel⟩, List.mem_of_getElem? (i := 941) (by decide +kernel), List.mem_of_getElem? (i := 1232) (by decide +kernel), List.mem_of_getElem? (i := 1233) (by decide +kernel)⟩
theorem lw_p71 : lw_okq (⟨"LacePinsModel", "leastFrom", "(II)I"⟩, 30) := ⟨⟨by decide +kernel, by decide +kernel⟩, List.mem_of_getElem? (i := 941) (by decide +kernel), List.mem_of_getElem? (i := 1248) (by decide +kernel), List.mem_of_getElem? (i := 1249) (by decide +kernel)⟩
theorem lw_p72 : lw_okq (⟨"LacePinsModel", "farFrom", "(III)I"⟩, 30) := ⟨⟨by decide +kernel, by decide +kernel⟩, List.mem_of_getElem? (i := 941) (by decide +kernel), List.mem_of_getElem? (i := 1252) (by decide +kernel), List.mem_of_getElem? (i := 1253) (by decide +kernel)⟩
theorem lw_p73 : lw_okq (⟨"LacePinsModel", "findsPairs", "()V"⟩, 30) := ⟨⟨by decide +kernel, by decide +kernel⟩, List.mem_of_getElem? (i := 941) (by decide +kernel), List.mem_of_getElem? (i := 1264) (by decide +kernel), List.mem_of_getElem? (i := 1265) (by decide +kernel)⟩
theorem lw_p74 : lw_okq (⟨"LacePinsModel", "findsTurns", "()V"⟩, 30) := ⟨⟨by decide +kernel, by decide +kernel⟩, List.mem_of_getElem? (i := 941) (by decide +kernel), List.mem_of_getElem? (i := 1268) (by decide +kernel), List.mem_of_getElem? (i := 1269) (by decide +kernel)⟩
theorem lw_p75 : lw_okq (⟨"LacePinsModel", "joins", "(IIII)V"⟩, 30) := ⟨⟨by decide +kernel, by decide +kernel⟩, List.mem_of_getElem? (i := 941) (by decide +kernel), List.mem_of_getElem? (i := 1272) (by decide +kernel), List.mem_of_getElem? (i := 1273) (by decide +kernel)⟩
theorem lw_p76 : lw_okq (⟨"LacePinsModel", "reads", "(I)V"⟩, 30) := ⟨⟨by decide +kernel, by decide +kernel⟩, List.mem_of_getElem? (i := 941) (by decide +kernel), List.mem_of_getElem? (i := 1313) (by decide +kernel), List.mem_of_getElem? (i := 1314) (by decide +kernel)⟩
theorem lw_p77 : lw_okq (⟨"LacePinsModel", "word", "(II)I"⟩, 30) := ⟨⟨by decide +kernel, by decide +kernel⟩, List.mem_of_getElem? (i := 941) (by decide +kernel), List.mem_of_getElem? (i := 1317) (by decide +kernel), List.mem_of_getElem? (i := 1318) (by decide +kernel)⟩
theorem lw_p78 : lw_okq (⟨"LacePinsModel", "here", "()I"⟩, 30) := ⟨⟨by decide +kernel, by decide +kernel⟩, List.mem_of_getElem? (i := 941) (by decide +kernel), List.mem_of_getElem? (i := 1321) (by decide +kernel), List.mem_of_getElem? (i := 1322) (by decide +kernel)⟩
theorem lw_p79 : lw_okq (⟨"LacePinsModel", "fails", "(I)V"⟩, 30) := ⟨⟨by decide +kernel, by decide +kernel⟩, List.mem_of_getElem? (i := 941) (by decide +kernel), List.mem_of_getElem? (i := 1325) (by decide +kernel), List.mem_of_getElem? (i := 1326) (by decide +kernel)⟩
def lw_privs_5 : List (MethodName × Nat) := [(⟨"LacePinsModel", "goes", "(IIZ)V"⟩, 30), (⟨"LacePinsModel", "twists", "(IZ)V"⟩, 30), (⟨"LacePinsModel", "isThread", "(I)Z"⟩, 30), (⟨"LacePinsModel", "areFew", "()Z"⟩, 30), (⟨"LacePinsModel", "goesBack", "()V"⟩, 30), (⟨"LacePinsModel", "oneLacks", "()Z"⟩, 30), (⟨"LacePinsModel", "mayCome", "(II)Z"⟩, 30), (⟨"LacePinsModel", "leastFrom", "(II)I"⟩, 30), (⟨"LacePinsModel", "farFrom", "(III)I"⟩, 30), (⟨"LacePinsModel", "findsPairs", "()V"⟩, 30), (⟨"LacePinsModel", "findsTurns", "()V"⟩, 30), (⟨"LacePinsModel", "joins", "(IIII)V"⟩, 30), (⟨"LacePinsModel", "reads", "(I)V"⟩, 30), (⟨"LacePinsModel", "word", "(II)I"⟩, 30), (⟨"LacePinsModel", "here", "()I"⟩, 30), (⟨"LacePinsModel", "fails", "(I)V"⟩, 30)]
theorem lw_r5 : ∀ q ∈ lw_privs_5, lw_okq q := List.forall_mem_cons.mpr ⟨lw_p64, List.forall_mem_cons.mpr ⟨lw_p65, List.forall_mem_cons.mpr ⟨lw_p66, List.forall_mem_cons.mpr ⟨lw_p67, List.forall_mem_cons.mpr ⟨lw_p68, List.forall_mem_cons.mpr ⟨lw_p69, List.forall_mem_cons.mpr ⟨lw_p70, List.forall_mem_cons.mpr ⟨lw_p71, List.forall_mem_cons.mpr ⟨lw_p72, List.forall_mem_cons.mpr ⟨lw_p73, List.forall_mem_cons.mpr ⟨lw_p74, List.forall_mem_cons.mpr ⟨lw_p75, List.forall_mem_cons.mpr ⟨lw_p76, List.forall_mem_cons.mpr ⟨lw_p77, List.forall_mem_cons.mpr ⟨lw_p78, List.forall_mem_cons.mpr ⟨lw_p79, fun _ h => absurd h List.not_mem_nil⟩⟩⟩⟩⟩⟩⟩⟩⟩⟩⟩⟩⟩⟩⟩⟩
theorem lw_p80 : lw_okq (⟨"LacePinsModel", "figures", "()I"⟩, 30) := ⟨⟨by decide +kernel, by decide +kernel⟩, List.mem_of_getElem? (i := 941) (by decide +kernel), List.mem_of_getElem? (i := 1329) (by decide +kernel), List.mem_of_getElem? (i := 1330) (by decide +kernel)⟩
theorem lw_p81 : lw_okq (⟨"LacePinsModel", "blank", "()V"⟩, 30) := ⟨⟨by decide +kernel, by decide +kernel⟩, List.mem_of_getElem? (i := 941) (by decide +kernel), List.mem_of_getElem? (i := 1333) (by decide +kernel), List.mem_of_getElem? (i := 1334) (by decide +kernel)⟩
theorem lw_p82 : lw_okq (⟨"LacePinsModel", "tells", "(I)I"⟩, 30) := ⟨⟨by decide +kernel, by decide +kernel⟩, List.mem_of_getElem? (i := 941) (by decide +kernel), List.mem_of_getElem? (i := 1340) (by decide +kernel), List.mem_of_getElem? (i := 1341) (by decide +kernel)⟩
def lw_privs_6 : List (MethodName × Nat) := [(⟨"LacePinsModel", "figures", "()I"⟩, 30), (⟨"LacePinsModel", "blank", "()V"⟩, 30), (⟨"LacePinsModel", "tells", "(I)I"⟩, 30)]
theorem lw_r6 : ∀ q ∈ lw_privs_6, lw_okq q := List.forall_mem_cons.mpr ⟨lw_p80, List.forall_mem_cons.mpr ⟨lw_p81, List.forall_mem_cons.mpr ⟨lw_p82, fun _ h => absurd h List.not_mem_nil⟩⟩⟩
def lw_privs : List (MethodName × Nat) := lw_privs_1 ++ (lw_privs_2 ++ (lw_privs_3 ++ (lw_privs_4 ++ (lw_privs_5 ++ (lw_privs_6)))))
def lw_tbl : List Cond := k2_sels lw_privs ++ tables_1
theorem lw_privs_ok : ∀ q ∈ lw_privs, lw_okq q := by
  show ∀ q ∈ lw_privs_1 ++ (lw_privs_2 ++ (lw_privs_3 ++ (lw_privs_4 ++ (lw_privs_5 ++ (lw_privs_6))))), lw_okq q
  exact List.forall_mem_append.mpr ⟨lw_r1, List.forall_mem_append.mpr ⟨lw_r2, List.forall_mem_append.mpr ⟨lw_r3, List.forall_mem_append.mpr ⟨lw_r4, List.forall_mem_append.mpr ⟨lw_r5, lw_r6⟩⟩⟩⟩⟩
-- ===== end of PART A; then your names; then what follows =====
end
section
def RX0 : String := "LacePins$Bench"
def TX0 : u_T := fun k => match k with
  | 0 => ("LacePins$Bench", "threadAt", "[I", true)
  | 1 => ("LacePins$Bench", "wentOver", "[I", true)
  | 2 => ("LacePins$Bench", "done", "J", false)
  | 3 => ("LacePins$Bench", "workedCount", "I", false)
  | 4 => ("LacePins$Bench", "worked", "[I", true)
  | 5 => ("LacePins$Bench", "handBefore", "[I", true)
  | _ => ("LacePins$Bench", "handSlot", "I", false)
def tyX0 : Nat → FieldType := fun k => match k with
  | 0 => .array .int
  | 1 => .array .int
  | 2 => .long
  | 3 => .int
  | 4 => .array .int
  | 5 => .array .int
  | _ => .int
theorem nmX0 : ∀ a, a < 7 → ∀ b, b < 7 → a ≠ b → (TX0 a).2.1 ≠ (TX0 b).2.1 := by decide +kernel
theorem tyX0_ok : ∀ k, k < 7 → parseFieldDescriptor (TX0 k).2.2.1 = some (tyX0 k) := by decide +kernel
abbrev cX0_init : ByteArray := prog_2_method_1_code
def yX0_init : MethodName := ⟨RX0, "<init>", "()V"⟩
abbrev cX0_begin : ByteArray := prog_2_method_2_code
def yX0_begin : MethodName := ⟨RX0, "begin", "(I)V"⟩
abbrev cX0_copyFrom : ByteArray := prog_2_method_3_code
def yX0_copyFrom : MethodName := ⟨RX0, "copyFrom", "(LLacePins$Bench;)V"⟩
abbrev cX0_isDone : ByteArray := prog_2_method_4_code
def yX0_isDone : MethodName := ⟨RX0, "isDone", "(I)Z"⟩
abbrev cX0_lastWorked : ByteArray := prog_2_method_5_code
def yX0_lastWorked : MethodName := ⟨RX0, "lastWorked", "()I"⟩
abbrev cX0_workPin : ByteArray := prog_2_method_6_code
def yX0_workPin : MethodName := ⟨RX0, "workPin", "(III)V"⟩
abbrev cX0_unwork : ByteArray := prog_2_method_7_code
def yX0_unwork : MethodName := ⟨RX0, "unwork", "(III)V"⟩
abbrev cX0_goOver : ByteArray := prog_2_method_8_code
def yX0_goOver : MethodName := ⟨RX0, "goOver", "(II)V"⟩
abbrev cX0_goBack : ByteArray := prog_2_method_9_code
def yX0_goBack : MethodName := ⟨RX0, "goBack", "(II)V"⟩
abbrev cX0_changePlaces : ByteArray := prog_2_method_10_code
def yX0_changePlaces : MethodName := ⟨RX0, "changePlaces", "(II)V"⟩
def RX1 : String := "LacePins$Joins"
def TX1 : u_T := fun k => match k with
  | 0 => ("LacePins$Joins", "hangs", "I", false)
  | 1 => ("LacePins$Joins", "outs", "I", false)
  | 2 => ("LacePins$Joins", "joined", "I", false)
  | 3 => ("LacePins$Joins", "apart", "I", false)
  | 4 => ("LacePins$Joins", "hangTurn", "[I", true)
  | 5 => ("LacePins$Joins", "outTurn", "[I", true)
  | 6 => ("LacePins$Joins", "outOf", "[I", true)
  | _ => ("LacePins$Joins", "best", "[I", true)
def tyX1 : Nat → FieldType := fun k => match k with
  | 0 => .int
  | 1 => .int
  | 2 => .int
  | 3 => .int
  | 4 => .array .int
  | 5 => .array .int
  | 6 => .array .int
  | _ => .array .int
theorem nmX1 : ∀ a, a < 8 → ∀ b, b < 8 → a ≠ b → (TX1 a).2.1 ≠ (TX1 b).2.1 := by decide +kernel
theorem tyX1_ok : ∀ k, k < 8 → parseFieldDescriptor (TX1 k).2.2.1 = some (tyX1 k) := by decide +kernel
abbrev cX1_init : ByteArray := prog_3_method_1_code
def yX1_init : MethodName := ⟨RX1, "<init>", "()V"⟩
abbrev cX1_join : ByteArray := prog_3_method_2_code
def yX1_join : MethodName := ⟨RX1, "join", "(LLacePins$Pattern;)V"⟩
abbrev cX1_sortOut : ByteArray := prog_3_method_3_code
def yX1_sortOut : MethodName := ⟨RX1, "sortOut", "(LLacePins$Pattern;)V"⟩
abbrev cX1_mayJoin : ByteArray := prog_3_method_4_code
def yX1_mayJoin : MethodName := ⟨RX1, "mayJoin", "(III)Z"⟩
abbrev cX1_difference : ByteArray := prog_3_method_5_code
def yX1_difference : MethodName := ⟨RX1, "difference", "(II)I"⟩
abbrev cX1_bestFrom : ByteArray := prog_3_method_6_code
def yX1_bestFrom : MethodName := ⟨RX1, "bestFrom", "(II)I"⟩
abbrev cX1_worthOf : ByteArray := prog_3_method_7_code
def yX1_worthOf : MethodName := ⟨RX1, "worthOf", "(III)I"⟩
abbrev cX1_weigh : ByteArray := prog_3_method_8_code
def yX1_weigh : MethodName := ⟨RX1, "weigh", "()V"⟩
abbrev cX1_bestOf : ByteArray := prog_3_method_9_code
def yX1_bestOf : MethodName := ⟨RX1, "bestOf", "(II)I"⟩
abbrev cX1_choose : ByteArray := prog_3_method_10_code
def yX1_choose : MethodName := ⟨RX1, "choose", "()V"⟩
abbrev cX1_firstOut : ByteArray := prog_3_method_11_code
def yX1_firstOut : MethodName := ⟨RX1, "firstOut", "(II)I"⟩
def RX2 : String := "LacePins$Needs"
def TX2 : u_T := fun k => match k with
  | 0 => ("LacePins$Needs", "direct", "[J", true)
  | 1 => ("LacePins$Needs", "all", "[J", true)
  | 2 => ("LacePins$Needs", "depth", "[I", true)
  | 3 => ("LacePins$Needs", "byRow", "[I", true)
  | _ => ("LacePins$Needs", "latest", "[I", true)
def tyX2 : Nat → FieldType := fun k => match k with
  | 0 => .array .long
  | 1 => .array .long
  | 2 => .array .int
  | 3 => .array .int
  | _ => .array .int
theorem nmX2 : ∀ a, a < 5 → ∀ b, b < 5 → a ≠ b → (TX2 a).2.1 ≠ (TX2 b).2.1 := by decide +kernel
theorem tyX2_ok : ∀ k, k < 5 → parseFieldDescriptor (TX2 k).2.2.1 = some (tyX2 k) := by decide +kernel
abbrev cX2_init : ByteArray := prog_4_method_1_code
def yX2_init : MethodName := ⟨RX2, "<init>", "()V"⟩
abbrev cX2_study : ByteArray := prog_4_method_2_code
def yX2_study : MethodName := ⟨RX2, "study", "(LLacePins$Pattern;)V"⟩
abbrev cX2_sortByRow : ByteArray := prog_4_method_3_code
def yX2_sortByRow : MethodName := ⟨RX2, "sortByRow", "(LLacePins$Pattern;)V"⟩
abbrev cX2_take : ByteArray := prog_4_method_4_code
def yX2_take : MethodName := ⟨RX2, "take", "(II)V"⟩
abbrev cX2_neededBy : ByteArray := prog_4_method_5_code
def yX2_neededBy : MethodName := ⟨RX2, "neededBy", "(II)J"⟩
def RX3 : String := "LacePins$Pattern"
def TX3 : u_T := fun k => match k with
  | 0 => ("LacePins$Pattern", "slots", "I", false)
  | 1 => ("LacePins$Pattern", "filledAtFirst", "I", false)
  | 2 => ("LacePins$Pattern", "pinCount", "I", false)
  | 3 => ("LacePins$Pattern", "pinRow", "[I", true)
  | 4 => ("LacePins$Pattern", "pinSlot", "[I", true)
  | 5 => ("LacePins$Pattern", "pinStitch", "[I", true)
  | 6 => ("LacePins$Pattern", "turnCount", "I", false)
  | _ => ("LacePins$Pattern", "turns", "[I", true)
def tyX3 : Nat → FieldType := fun k => match k with
  | 0 => .int
  | 1 => .int
  | 2 => .int
  | 3 => .array .int
  | 4 => .array .int
  | 5 => .array .int
  | 6 => .int
  | _ => .array .int
theorem nmX3 : ∀ a, a < 8 → ∀ b, b < 8 → a ≠ b → (TX3 a).2.1 ≠ (TX3 b).2.1 := by decide +kernel
theorem tyX3_ok : ∀ k, k < 8 → parseFieldDescriptor (TX3 k).2.2.1 = some (tyX3 k) := by decide +kernel
abbrev cX3_init : ByteArray := prog_5_method_1_code
def yX3_init : MethodName := ⟨RX3, "<init>", "()V"⟩
abbrev cX3_begin : ByteArray := prog_5_method_2_code
def yX3_begin : MethodName := ⟨RX3, "begin", "(I)V"⟩
abbrev cX3_copyFrom : ByteArray := prog_5_method_3_code
def yX3_copyFrom : MethodName := ⟨RX3, "copyFrom", "(LLacePins$Pattern;)V"⟩
abbrev cX3_isSlot : ByteArray := prog_5_method_4_code
def yX3_isSlot : MethodName := ⟨RX3, "isSlot", "(I)Z"⟩
abbrev cX3_isPinSlot : ByteArray := prog_5_method_5_code
def yX3_isPinSlot : MethodName := ⟨RX3, "isPinSlot", "(I)Z"⟩
abbrev cX3_isPin : ByteArray := prog_5_method_6_code
def yX3_isPin : MethodName := ⟨RX3, "isPin", "(I)Z"⟩
abbrev cX3_addPin : ByteArray := prog_5_method_7_code
def yX3_addPin : MethodName := ⟨RX3, "addPin", "(III)I"⟩
abbrev cX3_fillAtFirst : ByteArray := prog_5_method_8_code
def yX3_fillAtFirst : MethodName := ⟨RX3, "fillAtFirst", "(IZ)I"⟩
abbrev cX3_turnNumber : ByteArray := prog_5_method_9_code
def yX3_turnNumber : MethodName := ⟨RX3, "turnNumber", "(II)I"⟩
abbrev cX3_slotOfTurn : ByteArray := prog_5_method_10_code
def yX3_slotOfTurn : MethodName := ⟨RX3, "slotOfTurn", "(I)I"⟩
abbrev cX3_rowOfTurn : ByteArray := prog_5_method_11_code
def yX3_rowOfTurn : MethodName := ⟨RX3, "rowOfTurn", "(I)I"⟩
abbrev cX3_turnAt : ByteArray := prog_5_method_12_code
def yX3_turnAt : MethodName := ⟨RX3, "turnAt", "(II)I"⟩
abbrev cX3_placeOfTurn : ByteArray := prog_5_method_13_code
def yX3_placeOfTurn : MethodName := ⟨RX3, "placeOfTurn", "(I)I"⟩
abbrev cX3_removeTurn : ByteArray := prog_5_method_14_code
def yX3_removeTurn : MethodName := ⟨RX3, "removeTurn", "(I)V"⟩
abbrev cX3_sortTurns : ByteArray := prog_5_method_15_code
def yX3_sortTurns : MethodName := ⟨RX3, "sortTurns", "()V"⟩
abbrev cX3_isFilled : ByteArray := prog_5_method_16_code
def yX3_isFilled : MethodName := ⟨RX3, "isFilled", "(II)Z"⟩
abbrev cX3_turnsFull : ByteArray := prog_5_method_17_code
def yX3_turnsFull : MethodName := ⟨RX3, "turnsFull", "(I)Z"⟩
abbrev cX3_turnsInto : ByteArray := prog_5_method_18_code
def yX3_turnsInto : MethodName := ⟨RX3, "turnsInto", "(Z)I"⟩
abbrev cX3_lacksPair : ByteArray := prog_5_method_19_code
def yX3_lacksPair : MethodName := ⟨RX3, "lacksPair", "(I)Z"⟩
abbrev cX3_uppermost : ByteArray := prog_5_method_20_code
def yX3_uppermost : MethodName := ⟨RX3, "uppermost", "(J)I"⟩
abbrev cX3_isAbove : ByteArray := prog_5_method_21_code
def yX3_isAbove : MethodName := ⟨RX3, "isAbove", "(II)Z"⟩
abbrev cX3_flippedFill : ByteArray := prog_5_method_22_code
def yX3_flippedFill : MethodName := ⟨RX3, "flippedFill", "()I"⟩
abbrev cX3_flippedTurn : ByteArray := prog_5_method_23_code
def yX3_flippedTurn : MethodName := ⟨RX3, "flippedTurn", "(I)I"⟩
abbrev cX3_flip : ByteArray := prog_5_method_24_code
def yX3_flip : MethodName := ⟨RX3, "flip", "()V"⟩
abbrev cX3_isEven : ByteArray := prog_5_method_25_code
def yX3_isEven : MethodName := ⟨RX3, "isEven", "()Z"⟩
abbrev cX3_hasLike : ByteArray := prog_5_method_26_code
def yX3_hasLike : MethodName := ⟨RX3, "hasLike", "(III)Z"⟩
def RX4 : String := "LacePins$Rows"
def TX4 : u_T := fun k => match k with
  | 0 => ("LacePins$Rows", "size", "[I", true)
  | _ => ("LacePins$Rows", "values", "[J", true)
def tyX4 : Nat → FieldType := fun k => match k with
  | 0 => .array .int
  | _ => .array .long
theorem nmX4 : ∀ a, a < 2 → ∀ b, b < 2 → a ≠ b → (TX4 a).2.1 ≠ (TX4 b).2.1 := by decide +kernel
theorem tyX4_ok : ∀ k, k < 2 → parseFieldDescriptor (TX4 k).2.2.1 = some (tyX4 k) := by decide +kernel
abbrev cX4_init : ByteArray := prog_6_method_1_code
def yX4_init : MethodName := ⟨RX4, "<init>", "()V"⟩
abbrev cX4_isList : ByteArray := prog_6_method_2_code
def yX4_isList : MethodName := ⟨RX4, "isList", "(I)Z"⟩
abbrev cX4_holds : ByteArray := prog_6_method_3_code
def yX4_holds : MethodName := ⟨RX4, "holds", "(I)Z"⟩
abbrev cX4_hasPlace : ByteArray := prog_6_method_4_code
def yX4_hasPlace : MethodName := ⟨RX4, "hasPlace", "(II)Z"⟩
abbrev cX4_begin : ByteArray := prog_6_method_5_code
def yX4_begin : MethodName := ⟨RX4, "begin", "(II)V"⟩
abbrev cX4_put : ByteArray := prog_6_method_6_code
def yX4_put : MethodName := ⟨RX4, "put", "(IIJ)V"⟩
abbrev cX4_at : ByteArray := prog_6_method_7_code
def yX4_at : MethodName := ⟨RX4, "at", "(II)J"⟩
def RX5 : String := "LacePins$Tape"
def TX5 : u_T := fun k => match k with
  | 0 => ("LacePins$Tape", "signs", "[I", true)
  | 1 => ("LacePins$Tape", "length", "I", false)
  | 2 => ("LacePins$Tape", "place", "I", false)
  | 3 => ("LacePins$Tape", "fault", "I", false)
  | 4 => ("LacePins$Tape", "parts", "I", false)
  | 5 => ("LacePins$Tape", "kind", "[I", true)
  | 6 => ("LacePins$Tape", "first", "[I", true)
  | 7 => ("LacePins$Tape", "second", "[I", true)
  | _ => ("LacePins$Tape", "third", "[I", true)
def tyX5 : Nat → FieldType := fun k => match k with
  | 0 => .array .int
  | 1 => .int
  | 2 => .int
  | 3 => .int
  | 4 => .int
  | 5 => .array .int
  | 6 => .array .int
  | 7 => .array .int
  | _ => .array .int
theorem nmX5 : ∀ a, a < 9 → ∀ b, b < 9 → a ≠ b → (TX5 a).2.1 ≠ (TX5 b).2.1 := by decide +kernel
theorem tyX5_ok : ∀ k, k < 9 → parseFieldDescriptor (TX5 k).2.2.1 = some (tyX5 k) := by decide +kernel
abbrev cX5_init : ByteArray := prog_7_method_1_code
def yX5_init : MethodName := ⟨RX5, "<init>", "()V"⟩
abbrev cX5_append : ByteArray := prog_7_method_2_code
def yX5_append : MethodName := ⟨RX5, "append", "(I)Z"⟩
abbrev cX5_read : ByteArray := prog_7_method_3_code
def yX5_read : MethodName := ⟨RX5, "read", "()V"⟩
abbrev cX5_readPart : ByteArray := prog_7_method_4_code
def yX5_readPart : MethodName := ⟨RX5, "readPart", "(I)V"⟩
abbrev cX5_readKind : ByteArray := prog_7_method_5_code
def yX5_readKind : MethodName := ⟨RX5, "readKind", "()I"⟩
abbrev cX5_readStitch : ByteArray := prog_7_method_6_code
def yX5_readStitch : MethodName := ⟨RX5, "readStitch", "()I"⟩
abbrev cX5_nameOf : ByteArray := prog_7_method_7_code
def yX5_nameOf : MethodName := ⟨RX5, "nameOf", "(I)Ljava/lang/String;"⟩
abbrev cX5_readNumber : ByteArray := prog_7_method_8_code
def yX5_readNumber : MethodName := ⟨RX5, "readNumber", "()I"⟩
abbrev cX5_isFigureHere : ByteArray := prog_7_method_9_code
def yX5_isFigureHere : MethodName := ⟨RX5, "isFigureHere", "()Z"⟩
abbrev cX5_readFigure : ByteArray := prog_7_method_10_code
def yX5_readFigure : MethodName := ⟨RX5, "readFigure", "()I"⟩
abbrev cX5_skipWord : ByteArray := prog_7_method_11_code
def yX5_skipWord : MethodName := ⟨RX5, "skipWord", "()V"⟩
abbrev cX5_isWord : ByteArray := prog_7_method_12_code
def yX5_isWord : MethodName := ⟨RX5, "isWord", "(ILjava/lang/String;)Z"⟩
abbrev cX5_expect : ByteArray := prog_7_method_13_code
def yX5_expect : MethodName := ⟨RX5, "expect", "(I)V"⟩
def RX6 : String := "LacePins$Thought"
def TX6 : u_T := fun k => match k with
  | 0 => ("LacePins$Thought", "count", "I", false)
  | 1 => ("LacePins$Thought", "lawful", "Z", false)
  | 2 => ("LacePins$Thought", "left", "[I", true)
  | 3 => ("LacePins$Thought", "slot", "[I", true)
  | 4 => ("LacePins$Thought", "before", "[I", true)
  | 5 => ("LacePins$Thought", "met", "[Z", true)
  | 6 => ("LacePins$Thought", "ways", "[J", true)
  | _ => ("LacePins$Thought", "least", "[I", true)
def tyX6 : Nat → FieldType := fun k => match k with
  | 0 => .int
  | 1 => .boolean
  | 2 => .array .int
  | 3 => .array .int
  | 4 => .array .int
  | 5 => .array .boolean
  | 6 => .array .long
  | _ => .array .int
theorem nmX6 : ∀ a, a < 8 → ∀ b, b < 8 → a ≠ b → (TX6 a).2.1 ≠ (TX6 b).2.1 := by decide +kernel
theorem tyX6_ok : ∀ k, k < 8 → parseFieldDescriptor (TX6 k).2.2.1 = some (tyX6 k) := by decide +kernel
abbrev cX6_init : ByteArray := prog_8_method_1_code
def yX6_init : MethodName := ⟨RX6, "<init>", "()V"⟩
abbrev cX6_gather : ByteArray := prog_8_method_2_code
def yX6_gather : MethodName := ⟨RX6, "gather", "(LLacePins$Pattern;LLacePins$Needs;JJ)Z"⟩
abbrev cX6_amongLeft : ByteArray := prog_8_method_3_code
def yX6_amongLeft : MethodName := ⟨RX6, "amongLeft", "(J)I"⟩
abbrev cX6_wholeSet : ByteArray := prog_8_method_4_code
def yX6_wholeSet : MethodName := ⟨RX6, "wholeSet", "()I"⟩
abbrev cX6_comesNext : ByteArray := prog_8_method_5_code
def yX6_comesNext : MethodName := ⟨RX6, "comesNext", "(II)Z"⟩
abbrev cX6_markMet : ByteArray := prog_8_method_6_code
def yX6_markMet : MethodName := ⟨RX6, "markMet", "()V"⟩
abbrev cX6_lawfulOrders : ByteArray := prog_8_method_7_code
def yX6_lawfulOrders : MethodName := ⟨RX6, "lawfulOrders", "()J"⟩
abbrev cX6_pinOfOrder : ByteArray := prog_8_method_8_code
def yX6_pinOfOrder : MethodName := ⟨RX6, "pinOfOrder", "(JI)I"⟩
abbrev cX6_leastTravel : ByteArray := prog_8_method_9_code
def yX6_leastTravel : MethodName := ⟨RX6, "leastTravel", "(I)I"⟩
abbrev cX6_placeOf : ByteArray := prog_8_method_10_code
def yX6_placeOf : MethodName := ⟨RX6, "placeOf", "(II)I"⟩
abbrev cX6_travelBy : ByteArray := prog_8_method_11_code
def yX6_travelBy : MethodName := ⟨RX6, "travelBy", "(III)I"⟩
abbrev cX6_leastFrom : ByteArray := prog_8_method_12_code
def yX6_leastFrom : MethodName := ⟨RX6, "leastFrom", "(II)I"⟩
abbrev cX6_pinOfLeast : ByteArray := prog_8_method_13_code
def yX6_pinOfLeast : MethodName := ⟨RX6, "pinOfLeast", "(II)I"⟩
abbrev cX6_firstBy : ByteArray := prog_8_method_14_code
def yX6_firstBy : MethodName := ⟨RX6, "firstBy", "(III)I"⟩
def RX7 : String := "LacePins"
def TX7 : u_T := fun k => match k with
  | 0 => ("LacePins", "pattern", "LLacePins$Pattern;", true)
  | 1 => ("LacePins", "bench", "LLacePins$Bench;", true)
  | 2 => ("LacePins", "imagePattern", "LLacePins$Pattern;", true)
  | 3 => ("LacePins", "imageBench", "LLacePins$Bench;", true)
  | 4 => ("LacePins", "imageTaken", "Z", false)
  | 5 => ("LacePins", "untold", "LLacePins$Pattern;", true)
  | 6 => ("LacePins", "needed", "LLacePins$Needs;", true)
  | 7 => ("LacePins", "thought", "LLacePins$Thought;", true)
  | 8 => ("LacePins", "joins", "LLacePins$Joins;", true)
  | 9 => ("LacePins", "tape", "LLacePins$Tape;", true)
  | 10 => ("LacePins", "rows", "LLacePins$Rows;", true)
  | 11 => ("LacePins", "paperSigns", "[I", true)
  | _ => ("LacePins", "paperLength", "I", false)
def tyX7 : Nat → FieldType := fun k => match k with
  | 0 => .object "LacePins$Pattern"
  | 1 => .object "LacePins$Bench"
  | 2 => .object "LacePins$Pattern"
  | 3 => .object "LacePins$Bench"
  | 4 => .boolean
  | 5 => .object "LacePins$Pattern"
  | 6 => .object "LacePins$Needs"
  | 7 => .object "LacePins$Thought"
  | 8 => .object "LacePins$Joins"
  | 9 => .object "LacePins$Tape"
  | 10 => .object "LacePins$Rows"
  | 11 => .array .int
  | _ => .int
theorem nmX7 : ∀ a, a < 13 → ∀ b, b < 13 → a ≠ b → (TX7 a).2.1 ≠ (TX7 b).2.1 := by decide +kernel
theorem tyX7_ok : ∀ k, k < 13 → parseFieldDescriptor (TX7 k).2.2.1 = some (tyX7 k) := by decide +kernel
abbrev cX7_init : ByteArray := prog_1_method_1_code
def yX7_init : MethodName := ⟨RX7, "<init>", "()V"⟩
abbrev cX7_loom : ByteArray := prog_1_method_2_code
def yX7_loom : MethodName := ⟨RX7, "loom", "(I)I"⟩
abbrev cX7_pin : ByteArray := prog_1_method_3_code
def yX7_pin : MethodName := ⟨RX7, "pin", "(III)I"⟩
abbrev cX7_drop : ByteArray := prog_1_method_4_code
def yX7_drop : MethodName := ⟨RX7, "drop", "()I"⟩
abbrev cX7_stitch : ByteArray := prog_1_method_5_code
def yX7_stitch : MethodName := ⟨RX7, "stitch", "(II)I"⟩
abbrev cX7_of : ByteArray := prog_1_method_6_code
def yX7_of : MethodName := ⟨RX7, "of", "(II)I"⟩
abbrev cX7_fill : ByteArray := prog_1_method_7_code
def yX7_fill : MethodName := ⟨RX7, "fill", "(IZ)I"⟩
abbrev cX7_turn : ByteArray := prog_1_method_8_code
def yX7_turn : MethodName := ⟨RX7, "turn", "(II)I"⟩
abbrev cX7_filled : ByteArray := prog_1_method_9_code
def yX7_filled : MethodName := ⟨RX7, "filled", "(II)I"⟩
abbrev cX7_mirror : ByteArray := prog_1_method_10_code
def yX7_mirror : MethodName := ⟨RX7, "mirror", "()I"⟩
abbrev cX7_even : ByteArray := prog_1_method_11_code
def yX7_even : MethodName := ⟨RX7, "even", "()I"⟩
abbrev cX7_needs : ByteArray := prog_1_method_12_code
def yX7_needs : MethodName := ⟨RX7, "needs", "(II)J"⟩
abbrev cX7_pins : ByteArray := prog_1_method_13_code
def yX7_pins : MethodName := ⟨RX7, "pins", "(I)J"⟩
abbrev cX7_deepest : ByteArray := prog_1_method_14_code
def yX7_deepest : MethodName := ⟨RX7, "deepest", "()I"⟩
abbrev cX7_work : ByteArray := prog_1_method_15_code
def yX7_work : MethodName := ⟨RX7, "work", "(I)I"⟩
abbrev cX7_workAll : ByteArray := prog_1_method_16_code
def yX7_workAll : MethodName := ⟨RX7, "workAll", "()I"⟩
abbrev cX7_undo : ByteArray := prog_1_method_17_code
def yX7_undo : MethodName := ⟨RX7, "undo", "()I"⟩
abbrev cX7_thread : ByteArray := prog_1_method_18_code
def yX7_thread : MethodName := ⟨RX7, "thread", "(II)I"⟩
abbrev cX7_where : ByteArray := prog_1_method_19_code
def yX7_where : MethodName := ⟨RX7, "where", "(I)I"⟩
abbrev cX7_overs : ByteArray := prog_1_method_20_code
def yX7_overs : MethodName := ⟨RX7, "overs", "(I)I"⟩
abbrev cX7_acts : ByteArray := prog_1_method_21_code
def yX7_acts : MethodName := ⟨RX7, "acts", "(I)I"⟩
abbrev cX7_hand : ByteArray := prog_1_method_22_code
def yX7_hand : MethodName := ⟨RX7, "hand", "(I)I"⟩
abbrev cX7_orders : ByteArray := prog_1_method_23_code
def yX7_orders : MethodName := ⟨RX7, "orders", "()J"⟩
abbrev cX7_order : ByteArray := prog_1_method_24_code
def yX7_order : MethodName := ⟨RX7, "order", "(JI)I"⟩
abbrev cX7_travel : ByteArray := prog_1_method_25_code
def yX7_travel : MethodName := ⟨RX7, "travel", "()I"⟩
abbrev cX7_along : ByteArray := prog_1_method_26_code
def yX7_along : MethodName := ⟨RX7, "along", "(I)I"⟩
abbrev cX7_pairs : ByteArray := prog_1_method_27_code
def yX7_pairs : MethodName := ⟨RX7, "pairs", "(I)I"⟩
abbrev cX7_hang : ByteArray := prog_1_method_28_code
def yX7_hang : MethodName := ⟨RX7, "hang", "(II)I"⟩
abbrev cX7_draft : ByteArray := prog_1_method_29_code
def yX7_draft : MethodName := ⟨RX7, "draft", "(I)I"⟩
abbrev cX7_paper : ByteArray := prog_1_method_30_code
def yX7_paper : MethodName := ⟨RX7, "paper", "(I)I"⟩
abbrev cX7_lay : ByteArray := prog_1_method_31_code
def yX7_lay : MethodName := ⟨RX7, "lay", "(II)I"⟩
abbrev cX7_seen : ByteArray := prog_1_method_32_code
def yX7_seen : MethodName := ⟨RX7, "seen", "(III)I"⟩
abbrev cX7_feed : ByteArray := prog_1_method_33_code
def yX7_feed : MethodName := ⟨RX7, "feed", "(I)I"⟩
abbrev cX7_clear : ByteArray := prog_1_method_34_code
def yX7_clear : MethodName := ⟨RX7, "clear", "()I"⟩
abbrev cX7_pricking : ByteArray := prog_1_method_35_code
def yX7_pricking : MethodName := ⟨RX7, "pricking", "()I"⟩
abbrev cX7_list : ByteArray := prog_1_method_36_code
def yX7_list : MethodName := ⟨RX7, "list", "(II)I"⟩
abbrev cX7_set : ByteArray := prog_1_method_37_code
def yX7_set : MethodName := ⟨RX7, "set", "(IIJ)I"⟩
abbrev cX7_get : ByteArray := prog_1_method_38_code
def yX7_get : MethodName := ⟨RX7, "get", "(II)J"⟩
abbrev cX7_count : ByteArray := prog_1_method_39_code
def yX7_count : MethodName := ⟨RX7, "count", "(I)I"⟩
abbrev cX7_image : ByteArray := prog_1_method_40_code
def yX7_image : MethodName := ⟨RX7, "image", "()I"⟩
abbrev cX7_restore : ByteArray := prog_1_method_41_code
def yX7_restore : MethodName := ⟨RX7, "restore", "()I"⟩
abbrev cX7_isRow : ByteArray := prog_1_method_42_code
def yX7_isRow : MethodName := ⟨RX7, "isRow", "(I)Z"⟩
abbrev cX7_isStitch : ByteArray := prog_1_method_43_code
def yX7_isStitch : MethodName := ⟨RX7, "isStitch", "(I)Z"⟩
abbrev cX7_isThread : ByteArray := prog_1_method_44_code
def yX7_isThread : MethodName := ⟨RX7, "isThread", "(I)Z"⟩
abbrev cX7_pinBit : ByteArray := prog_1_method_45_code
def yX7_pinBit : MethodName := ⟨RX7, "pinBit", "(I)J"⟩
abbrev cX7_hasPin : ByteArray := prog_1_method_46_code
def yX7_hasPin : MethodName := ⟨RX7, "hasPin", "(JI)Z"⟩
abbrev cX7_anyDone : ByteArray := prog_1_method_47_code
def yX7_anyDone : MethodName := ⟨RX7, "anyDone", "()Z"⟩
abbrev cX7_depthOf : ByteArray := prog_1_method_48_code
def yX7_depthOf : MethodName := ⟨RX7, "depthOf", "(I)I"⟩
abbrev cX7_lackingPins : ByteArray := prog_1_method_49_code
def yX7_lackingPins : MethodName := ⟨RX7, "lackingPins", "()J"⟩
abbrev cX7_readyPins : ByteArray := prog_1_method_50_code
def yX7_readyPins : MethodName := ⟨RX7, "readyPins", "()J"⟩
abbrev cX7_workOne : ByteArray := prog_1_method_51_code
def yX7_workOne : MethodName := ⟨RX7, "workOne", "(I)V"⟩
abbrev cX7_think : ByteArray := prog_1_method_52_code
def yX7_think : MethodName := ⟨RX7, "think", "()Z"⟩
abbrev cX7_slotAndRow : ByteArray := prog_1_method_53_code
def yX7_slotAndRow : MethodName := ⟨RX7, "slotAndRow", "(I)I"⟩
abbrev cX7_drawPin : ByteArray := prog_1_method_54_code
def yX7_drawPin : MethodName := ⟨RX7, "drawPin", "(I)V"⟩
abbrev cX7_wouldBeSeen : ByteArray := prog_1_method_55_code
def yX7_wouldBeSeen : MethodName := ⟨RX7, "wouldBeSeen", "(IIII)Z"⟩
abbrev cX7_tellPart : ByteArray := prog_1_method_56_code
def yX7_tellPart : MethodName := ⟨RX7, "tellPart", "(I)I"⟩
abbrev cX7_actCount : ByteArray := prog_1_method_57_code
def yX7_actCount : MethodName := ⟨RX7, "actCount", "(I)I"⟩
abbrev cX7_isCrossAct : ByteArray := prog_1_method_58_code
def yX7_isCrossAct : MethodName := ⟨RX7, "isCrossAct", "(II)Z"⟩
abbrev cX7_actsOf : ByteArray := prog_1_method_59_code
def yX7_actsOf : MethodName := ⟨RX7, "actsOf", "(IZ)I"⟩
def RX8 : String := "LacePinsModel"
def TX8 : u_T := fun k => match k with
  | 0 => ("LacePinsModel", "s", "[I", true)
  | 1 => ("LacePinsModel", "image", "[I", true)
  | 2 => ("LacePinsModel", "was", "[I", true)
  | 3 => ("LacePinsModel", "isKept", "Z", false)
  | 4 => ("LacePinsModel", "need", "[J", true)
  | 5 => ("LacePinsModel", "needAll", "[J", true)
  | 6 => ("LacePinsModel", "ways", "[J", true)
  | 7 => ("LacePinsModel", "deep", "[I", true)
  | 8 => ("LacePinsModel", "left", "[I", true)
  | 9 => ("LacePinsModel", "least", "[I", true)
  | 10 => ("LacePinsModel", "lefts", "I", false)
  | 11 => ("LacePinsModel", "hang", "[I", true)
  | 12 => ("LacePinsModel", "out", "[I", true)
  | 13 => ("LacePinsModel", "joined", "[I", true)
  | 14 => ("LacePinsModel", "bestJoin", "[I", true)
  | 15 => ("LacePinsModel", "hangs", "I", false)
  | 16 => ("LacePinsModel", "outs", "I", false)
  | 17 => ("LacePinsModel", "bestMany", "I", false)
  | 18 => ("LacePinsModel", "bestApart", "I", false)
  | 19 => ("LacePinsModel", "tape", "[I", true)
  | 20 => ("LacePinsModel", "paper", "[I", true)
  | 21 => ("LacePinsModel", "part", "[I", true)
  | 22 => ("LacePinsModel", "taped", "I", false)
  | 23 => ("LacePinsModel", "papers", "I", false)
  | 24 => ("LacePinsModel", "at", "I", false)
  | 25 => ("LacePinsModel", "fault", "I", false)
  | 26 => ("LacePinsModel", "size", "[I", true)
  | 27 => ("LacePinsModel", "then", "[I", true)
  | 28 => ("LacePinsModel", "item", "[J", true)
  | _ => ("LacePinsModel", "words", "[C", true)
def tyX8 : Nat → FieldType := fun k => match k with
  | 0 => .array .int
  | 1 => .array .int
  | 2 => .array .int
  | 3 => .boolean
  | 4 => .array .long
  | 5 => .array .long
  | 6 => .array .long
  | 7 => .array .int
  | 8 => .array .int
  | 9 => .array .int
  | 10 => .int
  | 11 => .array .int
  | 12 => .array .int
  | 13 => .array .int
  | 14 => .array .int
  | 15 => .int
  | 16 => .int
  | 17 => .int
  | 18 => .int
  | 19 => .array .int
  | 20 => .array .int
  | 21 => .array .int
  | 22 => .int
  | 23 => .int
  | 24 => .int
  | 25 => .int
  | 26 => .array .int
  | 27 => .array .int
  | 28 => .array .long
  | _ => .array .char
theorem nmX8 : ∀ a, a < 30 → ∀ b, b < 30 → a ≠ b → (TX8 a).2.1 ≠ (TX8 b).2.1 := by decide +kernel
theorem tyX8_ok : ∀ k, k < 30 → parseFieldDescriptor (TX8 k).2.2.1 = some (tyX8 k) := by decide +kernel
abbrev cX8_init : ByteArray := prog_10_method_1_code
def yX8_init : MethodName := ⟨RX8, "<init>", "()V"⟩
abbrev cX8_isIn : ByteArray := prog_10_method_2_code
def yX8_isIn : MethodName := ⟨RX8, "isIn", "(JJJ)Z"⟩
abbrev cX8_starts : ByteArray := prog_10_method_3_code
def yX8_starts : MethodName := ⟨RX8, "starts", "(I)V"⟩
abbrev cX8_isPin : ByteArray := prog_10_method_4_code
def yX8_isPin : MethodName := ⟨RX8, "isPin", "(I)Z"⟩
abbrev cX8_isSlot : ByteArray := prog_10_method_5_code
def yX8_isSlot : MethodName := ⟨RX8, "isSlot", "(I)Z"⟩
abbrev cX8_copies : ByteArray := prog_10_method_6_code
def yX8_copies : MethodName := ⟨RX8, "copies", "([I[I)V"⟩
abbrev cX8_loom : ByteArray := prog_10_method_7_code
def yX8_loom : MethodName := ⟨RX8, "loom", "(I)I"⟩
abbrev cX8_shares : ByteArray := prog_10_method_8_code
def yX8_shares : MethodName := ⟨RX8, "shares", "(II)Z"⟩
abbrev cX8_pin : ByteArray := prog_10_method_9_code
def yX8_pin : MethodName := ⟨RX8, "pin", "(III)I"⟩
abbrev cX8_drop : ByteArray := prog_10_method_10_code
def yX8_drop : MethodName := ⟨RX8, "drop", "()I"⟩
abbrev cX8_becomes : ByteArray := prog_10_method_11_code
def yX8_becomes : MethodName := ⟨RX8, "becomes", "(II)I"⟩
abbrev cX8_stitch : ByteArray := prog_10_method_12_code
def yX8_stitch : MethodName := ⟨RX8, "stitch", "(II)I"⟩
abbrev cX8_fill : ByteArray := prog_10_method_13_code
def yX8_fill : MethodName := ⟨RX8, "fill", "(IZ)I"⟩
abbrev cX8_turn : ByteArray := prog_10_method_14_code
def yX8_turn : MethodName := ⟨RX8, "turn", "(II)I"⟩
abbrev cX8_isFilled : ByteArray := prog_10_method_15_code
def yX8_isFilled : MethodName := ⟨RX8, "isFilled", "(II)Z"⟩
abbrev cX8_filled : ByteArray := prog_10_method_16_code
def yX8_filled : MethodName := ⟨RX8, "filled", "(II)I"⟩
abbrev cX8_mirror : ByteArray := prog_10_method_17_code
def yX8_mirror : MethodName := ⟨RX8, "mirror", "()I"⟩
abbrev cX8_hasPin : ByteArray := prog_10_method_18_code
def yX8_hasPin : MethodName := ⟨RX8, "hasPin", "(III)Z"⟩
abbrev cX8_hasTurn : ByteArray := prog_10_method_19_code
def yX8_hasTurn : MethodName := ⟨RX8, "hasTurn", "(I)Z"⟩
abbrev cX8_even : ByteArray := prog_10_method_20_code
def yX8_even : MethodName := ⟨RX8, "even", "()I"⟩
abbrev cX8_ahead : ByteArray := prog_10_method_21_code
def yX8_ahead : MethodName := ⟨RX8, "ahead", "(II)I"⟩
abbrev cX8_finds : ByteArray := prog_10_method_22_code
def yX8_finds : MethodName := ⟨RX8, "finds", "(I)V"⟩
abbrev cX8_findsAll : ByteArray := prog_10_method_23_code
def yX8_findsAll : MethodName := ⟨RX8, "findsAll", "()V"⟩
abbrev cX8_lacks : ByteArray := prog_10_method_24_code
def yX8_lacks : MethodName := ⟨RX8, "lacks", "(I)Z"⟩
abbrev cX8_done : ByteArray := prog_10_method_25_code
def yX8_done : MethodName := ⟨RX8, "done", "()J"⟩
abbrev cX8_isReady : ByteArray := prog_10_method_26_code
def yX8_isReady : MethodName := ⟨RX8, "isReady", "(I)Z"⟩
abbrev cX8_of : ByteArray := prog_10_method_27_code
def yX8_of : MethodName := ⟨RX8, "of", "(II)I"⟩
abbrev cX8_needs : ByteArray := prog_10_method_28_code
def yX8_needs : MethodName := ⟨RX8, "needs", "(II)J"⟩
abbrev cX8_pins : ByteArray := prog_10_method_29_code
def yX8_pins : MethodName := ⟨RX8, "pins", "(I)J"⟩
abbrev cX8_deepest : ByteArray := prog_10_method_30_code
def yX8_deepest : MethodName := ⟨RX8, "deepest", "()I"⟩
abbrev cX8_goes : ByteArray := prog_10_method_31_code
def yX8_goes : MethodName := ⟨RX8, "goes", "(IIZ)V"⟩
abbrev cX8_crosses : ByteArray := prog_10_method_32_code
def yX8_crosses : MethodName := ⟨RX8, "crosses", "(IZ)V"⟩
abbrev cX8_twists : ByteArray := prog_10_method_33_code
def yX8_twists : MethodName := ⟨RX8, "twists", "(IZ)V"⟩
abbrev cX8_stitches : ByteArray := prog_10_method_34_code
def yX8_stitches : MethodName := ⟨RX8, "stitches", "(IIZ)V"⟩
abbrev cX8_works : ByteArray := prog_10_method_35_code
def yX8_works : MethodName := ⟨RX8, "works", "(I)V"⟩
abbrev cX8_work : ByteArray := prog_10_method_36_code
def yX8_work : MethodName := ⟨RX8, "work", "(I)I"⟩
abbrev cX8_workAll : ByteArray := prog_10_method_37_code
def yX8_workAll : MethodName := ⟨RX8, "workAll", "()I"⟩
abbrev cX8_undo : ByteArray := prog_10_method_38_code
def yX8_undo : MethodName := ⟨RX8, "undo", "()I"⟩
abbrev cX8_thread : ByteArray := prog_10_method_39_code
def yX8_thread : MethodName := ⟨RX8, "thread", "(II)I"⟩
abbrev cX8_isThread : ByteArray := prog_10_method_40_code
def yX8_isThread : MethodName := ⟨RX8, "isThread", "(I)Z"⟩
abbrev cX8_where : ByteArray := prog_10_method_41_code
def yX8_where : MethodName := ⟨RX8, "where", "(I)I"⟩
abbrev cX8_overs : ByteArray := prog_10_method_42_code
def yX8_overs : MethodName := ⟨RX8, "overs", "(I)I"⟩
abbrev cX8_acts : ByteArray := prog_10_method_43_code
def yX8_acts : MethodName := ⟨RX8, "acts", "(I)I"⟩
abbrev cX8_hand : ByteArray := prog_10_method_44_code
def yX8_hand : MethodName := ⟨RX8, "hand", "(I)I"⟩
abbrev cX8_areFew : ByteArray := prog_10_method_45_code
def yX8_areFew : MethodName := ⟨RX8, "areFew", "()Z"⟩
abbrev cX8_mayCome : ByteArray := prog_10_method_46_code
def yX8_mayCome : MethodName := ⟨RX8, "mayCome", "(II)Z"⟩
abbrev cX8_oneLacks : ByteArray := prog_10_method_47_code
def yX8_oneLacks : MethodName := ⟨RX8, "oneLacks", "()Z"⟩
abbrev cX8_goesBack : ByteArray := prog_10_method_48_code
def yX8_goesBack : MethodName := ⟨RX8, "goesBack", "()V"⟩
abbrev cX8_orders : ByteArray := prog_10_method_49_code
def yX8_orders : MethodName := ⟨RX8, "orders", "()J"⟩
abbrev cX8_order : ByteArray := prog_10_method_50_code
def yX8_order : MethodName := ⟨RX8, "order", "(JI)I"⟩
abbrev cX8_farFrom : ByteArray := prog_10_method_51_code
def yX8_farFrom : MethodName := ⟨RX8, "farFrom", "(III)I"⟩
abbrev cX8_leastFrom : ByteArray := prog_10_method_52_code
def yX8_leastFrom : MethodName := ⟨RX8, "leastFrom", "(II)I"⟩
abbrev cX8_travel : ByteArray := prog_10_method_53_code
def yX8_travel : MethodName := ⟨RX8, "travel", "()I"⟩
abbrev cX8_along : ByteArray := prog_10_method_54_code
def yX8_along : MethodName := ⟨RX8, "along", "(I)I"⟩
abbrev cX8_findsTurns : ByteArray := prog_10_method_55_code
def yX8_findsTurns : MethodName := ⟨RX8, "findsTurns", "()V"⟩
abbrev cX8_joins : ByteArray := prog_10_method_56_code
def yX8_joins : MethodName := ⟨RX8, "joins", "(IIII)V"⟩
abbrev cX8_findsPairs : ByteArray := prog_10_method_57_code
def yX8_findsPairs : MethodName := ⟨RX8, "findsPairs", "()V"⟩
abbrev cX8_pairs : ByteArray := prog_10_method_58_code
def yX8_pairs : MethodName := ⟨RX8, "pairs", "(I)I"⟩
abbrev cX8_hang : ByteArray := prog_10_method_59_code
def yX8_hang : MethodName := ⟨RX8, "hang", "(II)I"⟩
abbrev cX8_draft : ByteArray := prog_10_method_60_code
def yX8_draft : MethodName := ⟨RX8, "draft", "(I)I"⟩
abbrev cX8_paper : ByteArray := prog_10_method_61_code
def yX8_paper : MethodName := ⟨RX8, "paper", "(I)I"⟩
abbrev cX8_isList : ByteArray := prog_10_method_62_code
def yX8_isList : MethodName := ⟨RX8, "isList", "(I)Z"⟩
abbrev cX8_lay : ByteArray := prog_10_method_63_code
def yX8_lay : MethodName := ⟨RX8, "lay", "(II)I"⟩
abbrev cX8_seen : ByteArray := prog_10_method_64_code
def yX8_seen : MethodName := ⟨RX8, "seen", "(III)I"⟩
abbrev cX8_feed : ByteArray := prog_10_method_65_code
def yX8_feed : MethodName := ⟨RX8, "feed", "(I)I"⟩
abbrev cX8_clear : ByteArray := prog_10_method_66_code
def yX8_clear : MethodName := ⟨RX8, "clear", "()I"⟩
abbrev cX8_here : ByteArray := prog_10_method_67_code
def yX8_here : MethodName := ⟨RX8, "here", "()I"⟩
abbrev cX8_fails : ByteArray := prog_10_method_68_code
def yX8_fails : MethodName := ⟨RX8, "fails", "(I)V"⟩
abbrev cX8_blank : ByteArray := prog_10_method_69_code
def yX8_blank : MethodName := ⟨RX8, "blank", "()V"⟩
abbrev cX8_figures : ByteArray := prog_10_method_70_code
def yX8_figures : MethodName := ⟨RX8, "figures", "()I"⟩
abbrev cX8_word : ByteArray := prog_10_method_71_code
def yX8_word : MethodName := ⟨RX8, "word", "(II)I"⟩
abbrev cX8_reads : ByteArray := prog_10_method_72_code
def yX8_reads : MethodName := ⟨RX8, "reads", "(I)V"⟩
abbrev cX8_tells : ByteArray := prog_10_method_73_code
def yX8_tells : MethodName := ⟨RX8, "tells", "(I)I"⟩
abbrev cX8_pricking : ByteArray := prog_10_method_74_code
def yX8_pricking : MethodName := ⟨RX8, "pricking", "()I"⟩
abbrev cX8_list : ByteArray := prog_10_method_75_code
def yX8_list : MethodName := ⟨RX8, "list", "(II)I"⟩
abbrev cX8_set : ByteArray := prog_10_method_76_code
def yX8_set : MethodName := ⟨RX8, "set", "(IIJ)I"⟩
abbrev cX8_get : ByteArray := prog_10_method_77_code
def yX8_get : MethodName := ⟨RX8, "get", "(II)J"⟩
abbrev cX8_count : ByteArray := prog_10_method_78_code
def yX8_count : MethodName := ⟨RX8, "count", "(I)I"⟩
abbrev cX8_image : ByteArray := prog_10_method_79_code
def yX8_image : MethodName := ⟨RX8, "image", "()I"⟩
abbrev cX8_restore : ByteArray := prog_10_method_80_code
def yX8_restore : MethodName := ⟨RX8, "restore", "()I"⟩
def RJ6 : String := "java/lang/Integer"
def TJ6 : u_T := fun k => match k with
  | _ => ("", "", "", false)
def tyJ6 : Nat → FieldType := fun k => match k with
  | _ => .int
theorem nmJ6 : ∀ a, a < 0 → ∀ b, b < 0 → a ≠ b → (TJ6 a).2.1 ≠ (TJ6 b).2.1 := by decide +kernel
theorem tyJ6_ok : ∀ k, k < 0 → parseFieldDescriptor (TJ6 k).2.2.1 = some (tyJ6 k) := by decide +kernel
abbrev cJ6_bitCount_0f7a4 : ByteArray := prog_11_method_49_code
def yJ6_bitCount_0f7a4 : MethodName := ⟨RJ6, "bitCount", "(I)I"⟩
def RJ9 : String := "java/lang/Math"
def TJ9 : u_T := fun k => match k with
  | _ => ("", "", "", false)
def tyJ9 : Nat → FieldType := fun k => match k with
  | _ => .int
theorem nmJ9 : ∀ a, a < 0 → ∀ b, b < 0 → a ≠ b → (TJ9 a).2.1 ≠ (TJ9 b).2.1 := by decide +kernel
theorem tyJ9_ok : ∀ k, k < 0 → parseFieldDescriptor (TJ9 k).2.2.1 = some (tyJ9 k) := by decide +kernel
abbrev cJ9_abs_0f7a4 : ByteArray := prog_12_method_59_code
def yJ9_abs_0f7a4 : MethodName := ⟨RJ9, "abs", "(I)I"⟩
abbrev cJ9_max_7cf53 : ByteArray := prog_12_method_65_code
def yJ9_max_7cf53 : MethodName := ⟨RJ9, "max", "(II)I"⟩
abbrev cJ9_min_7cf53 : ByteArray := prog_12_method_69_code
def yJ9_min_7cf53 : MethodName := ⟨RJ9, "min", "(II)I"⟩
def RJ0 : String := "java/lang/String"
def TJ0 : u_T := fun k => match k with
  | _ => ("", "", "", false)
def tyJ0 : Nat → FieldType := fun k => match k with
  | _ => .int
theorem nmJ0 : ∀ a, a < 0 → ∀ b, b < 0 → a ≠ b → (TJ0 a).2.1 ≠ (TJ0 b).2.1 := by decide +kernel
theorem tyJ0_ok : ∀ k, k < 0 → parseFieldDescriptor (TJ0 k).2.2.1 = some (tyJ0 k) := by decide +kernel
abbrev cJ0_length_8abf5 : ByteArray := prog_13_method_54_code
def yJ0_length_8abf5 : MethodName := ⟨RJ0, "length", "()I"⟩
abbrev cJ0_charAt_5068e : ByteArray := prog_13_method_56_code
def yJ0_charAt_5068e : MethodName := ⟨RJ0, "charAt", "(I)C"⟩
abbrev cJ0_coder_7d493 : ByteArray := prog_13_method_152_code
def yJ0_coder_7d493 : MethodName := ⟨RJ0, "coder", "()B"⟩
abbrev cJ0_isLatin1_aae02 : ByteArray := prog_13_method_154_code
def yJ0_isLatin1_aae02 : MethodName := ⟨RJ0, "isLatin1", "()Z"⟩
abbrev cJ0_checkIndex_df160 : ByteArray := prog_13_method_155_code
def yJ0_checkIndex_df160 : MethodName := ⟨RJ0, "checkIndex", "(II)V"⟩
def RJ1 : String := "java/lang/StringLatin1"
def TJ1 : u_T := fun k => match k with
  | _ => ("", "", "", false)
def tyJ1 : Nat → FieldType := fun k => match k with
  | _ => .int
theorem nmJ1 : ∀ a, a < 0 → ∀ b, b < 0 → a ≠ b → (TJ1 a).2.1 ≠ (TJ1 b).2.1 := by decide +kernel
theorem tyJ1_ok : ∀ k, k < 0 → parseFieldDescriptor (TJ1 k).2.2.1 = some (tyJ1 k) := by decide +kernel
abbrev cJ1_charAt_3b067 : ByteArray := prog_14_method_2_code
def yJ1_charAt_3b067 : MethodName := ⟨RJ1, "charAt", "([BI)C"⟩
def RJ2 : String := "java/lang/StringUTF16"
def TJ2 : u_T := fun k => match k with
  | _ => ("", "", "", false)
def tyJ2 : Nat → FieldType := fun k => match k with
  | _ => .int
theorem nmJ2 : ∀ a, a < 0 → ∀ b, b < 0 → a ≠ b → (TJ2 a).2.1 ≠ (TJ2 b).2.1 := by decide +kernel
theorem tyJ2_ok : ∀ k, k < 0 → parseFieldDescriptor (TJ2 k).2.2.1 = some (tyJ2 k) := by decide +kernel
abbrev cJ2_getChar_3b067 : ByteArray := prog_15_method_5_code
def yJ2_getChar_3b067 : MethodName := ⟨RJ2, "getChar", "([BI)C"⟩
abbrev cJ2_length_9d52b : ByteArray := prog_15_method_6_code
def yJ2_length_9d52b : MethodName := ⟨RJ2, "length", "([B)I"⟩
abbrev cJ2_charAt_3b067 : ByteArray := prog_15_method_83_code
def yJ2_charAt_3b067 : MethodName := ⟨RJ2, "charAt", "([BI)C"⟩
abbrev cJ2_checkIndex_2214a : ByteArray := prog_15_method_91_code
def yJ2_checkIndex_2214a : MethodName := ⟨RJ2, "checkIndex", "(I[B)V"⟩
def RJ10 : String := "java/lang/System"
def TJ10 : u_T := fun k => match k with
  | _ => ("", "", "", false)
def tyJ10 : Nat → FieldType := fun k => match k with
  | _ => .int
theorem nmJ10 : ∀ a, a < 0 → ∀ b, b < 0 → a ≠ b → (TJ10 a).2.1 ≠ (TJ10 b).2.1 := by decide +kernel
theorem tyJ10_ok : ∀ k, k < 0 → parseFieldDescriptor (TJ10 k).2.2.1 = some (tyJ10 k) := by decide +kernel
def RJ7 : String := "java/util/Arrays"
def TJ7 : u_T := fun k => match k with
  | _ => ("", "", "", false)
def tyJ7 : Nat → FieldType := fun k => match k with
  | _ => .int
theorem nmJ7 : ∀ a, a < 0 → ∀ b, b < 0 → a ≠ b → (TJ7 a).2.1 ≠ (TJ7 b).2.1 := by decide +kernel
theorem tyJ7_ok : ∀ k, k < 0 → parseFieldDescriptor (TJ7 k).2.2.1 = some (tyJ7 k) := by decide +kernel
abbrev cJ7_fill_53178 : ByteArray := prog_17_method_103_code
def yJ7_fill_53178 : MethodName := ⟨RJ7, "fill", "([II)V"⟩
def RJ3 : String := "jdk/internal/util/Preconditions"
def TJ3 : u_T := fun k => match k with
  | _ => ("", "", "", false)
def tyJ3 : Nat → FieldType := fun k => match k with
  | _ => .int
theorem nmJ3 : ∀ a, a < 0 → ∀ b, b < 0 → a ≠ b → (TJ3 a).2.1 ≠ (TJ3 b).2.1 := by decide +kernel
theorem tyJ3_ok : ∀ k, k < 0 → parseFieldDescriptor (TJ3 k).2.2.1 = some (tyJ3 k) := by decide +kernel
abbrev cJ3_checkIndex_8e157 : ByteArray := prog_18_method_11_code
def yJ3_checkIndex_8e157 : MethodName := ⟨RJ3, "checkIndex", "(IILjava/util/function/BiFunction;)I"⟩
def RL : String := "LacePinsLaw"
abbrev cL_law : ByteArray := code
def yL_law : MethodName := ⟨RL, "law", "([I)Z"⟩
abbrev vwCl : List vw_C := [(RX0, TX0, 7), (RX1, TX1, 8), (RX2, TX2, 5), (RX3, TX3, 8), (RX4, TX4, 2), (RX5, TX5, 9), (RX6, TX6, 8), (RX7, TX7, 13), (RX8, TX8, 30)]
end
section
/-! The abstract machine of this claim: a world is a fixed list of cells; what changes in it are whole numbers. -/
/-- an int, a long, a reference (the number of a cell) -/
abbrev xV : Type := Int ⊕ (Int ⊕ Nat)
/-- what the cells hold: cell, place -/
abbrev xH : Type := Nat → Int → Int
/-- a cell: an array (type, length), or an object (class, fields: a number of a type, or a reference to a cell) -/
abbrev xE : Type := (FieldType × Nat) ⊕ (Nat × List (FieldType ⊕ Nat))
/-- a method: name, code, locals, answer -/
abbrev xM : Type := MethodName × ByteArray × Nat × Option FieldType
def xu (h : xH) (c : Nat) (i v : Int) : xH := fun c' i' => if c' = c ∧ i' = i then v else h c' i'
def inI (n : Int) : Prop := -2147483648 ≤ n ∧ n ≤ 2147483647
def inL (n : Int) : Prop := -9223372036854775808 ≤ n ∧ n ≤ 9223372036854775807
def xc (ad : Nat → Nat) (v : xV) : Value := match v with
  | .inl n => .int (Int32.ofInt n)
  | .inr (.inl n) => .long (Int64.ofInt n)
  | .inr (.inr c) => .ref (ad c)
def xcat (v : xV) : Nat := match v with
  | .inr (.inl _) => 2
  | _ => 1
theorem xcat_eq (ad : Nat → Nat) (v : xV) : (xc ad v).category = xcat v := by
  rcases v with n | n | c <;> rfl
theorem xcat_sum (ad : Nat → Nat) (l : List xV) : ((l.map (xc ad)).map fun v => v.category).sum = (l.map xcat).sum := by
  rw [List.map_map]
  congr 1
  exact List.map_congr_left (fun v _ => xcat_eq ad v)
def tblG : List Cond := lw_tbl.filter goodWord
theorem tblG_mem {w : Cond} (i : Nat) (h : lw_tbl[i]? = some w) (hg : goodWord w = true) : w ∈ tblG := List.mem_filter.mpr ⟨List.mem_of_getElem? h, hg⟩
theorem tblG_good : ∀ w ∈ tblG, goodWord w = true := fun w h => (List.mem_filter.mp h).2
def x_nest (w : Cond) : Bool := match w with
  | .fieldLinkNest _ _ _ _ _ _ => true
  | .methodLinkNest _ _ _ _ => true
  | _ => false
def tblN : List Cond := lw_tbl.filter x_nest
theorem tblN_mem {w : Cond} (i : Nat) (h : lw_tbl[i]? = some w) (hg : x_nest w = true) : w ∈ tblN := List.mem_filter.mpr ⟨List.mem_of_getElem? h, hg⟩
def xwm (mi : xM) : List Cond := .code mi.1 mi.2.1 mi.2.2.1 mi.2.2.2 :: tblG
theorem xgood {mi mj : xM} (h : Cond.code mj.1 mj.2.1 mj.2.2.1 mj.2.2.2 ∈ tblG) : GoodIn (xwm mi) (xwm mj) := by
  intro w hw
  rcases List.mem_cons.mp hw with rfl | hw
  · exact ⟨List.mem_cons_of_mem _ h, good_of_word (tblG_good _ h)⟩
  · exact ⟨List.mem_cons_of_mem _ hw, good_of_word (tblG_good _ hw)⟩
def xN (U : State) : Prop := ∀ w ∈ tblN, va_Nw w U
theorem xN.warm {s U : State} (hW : s.WarmedH U.vm) (h : xN s) : xN U := by
  intro w hw
  have h1 := h w hw
  have h2 := (List.mem_filter.mp hw).2
  unfold x_nest at h2
  split at h2
  · exact va_Nw.warmF hW h1
  · exact va_Nw.warmM hW h1
  · cases h2
theorem xN.same {u U : State} (hv : u.vm = U.vm) (h : xN u) : xN U := by
  intro w hw
  have h1 := h w hw
  have h2 := (List.mem_filter.mp hw).2
  unfold x_nest at h2
  split at h2
  · exact va_Nw.same rfl hv h1
  · exact va_Nw.same rfl hv h1
  · cases h2
/-- the world's cells as the kit has them -/
def xfv (ad : Nat → Nat) (h : xH) (c k : Nat) (f : FieldType ⊕ Nat) : Value := match f with
  | .inl .long => .long (Int64.ofInt (h c k))
  | .inl _ => .int (Int32.ofInt (h c k))
  | .inr c' => .ref (ad c')
def xar (ty : FieldType) (f : Int → Int) : (Nat → Int32) ⊕ (Nat → Int64) ⊕ (Nat → UInt32) ⊕ (Nat → UInt64) ⊕ (Nat → Option Nat) := match ty with
  | .long => .inr (.inl (fun i => Int64.ofInt (f i)))
  | _ => .inl (fun i => Int32.ofInt (f i))
def xti (ty : FieldType) : Nat := match ty with
  | .int => 0
  | .long => 1
  | .boolean => 2
  | _ => 3
def xT (tc : Nat → ClassId) : List (ClassId × FieldType) := [(tc 0, .int), (tc 1, .long), (tc 2, .boolean), (tc 3, .char)]
def xce (tc : Nat → ClassId) (ad : Nat → Nat) (h : xH) (c : Nat) (e : xE) : va_E := match e with
  | .inl (ty, n) => .inl (tc (xti ty), n, xar ty (h c))
  | .inr (ci, fs) => .inr (ci, fs.mapIdx (xfv ad h c))
def xws (wd : List xE) (tc : Nat → ClassId) (ad : Nat → Nat) (h : xH) : va_W := wd.mapIdx (fun c e => (ad c, xce tc ad h c e))
theorem xws_get {wd : List xE} {tc : Nat → ClassId} {ad : Nat → Nat} {h : xH} {c : Nat} {e : xE} (hc : wd[c]? = some e) : (xws wd tc ad h)[c]? = some (ad c, xce tc ad h c e) := by
  simp [xws, List.getElem?_mapIdx, hc]
theorem xws_len (wd : List xE) (tc : Nat → ClassId) (ad : Nat → Nat) (h : xH) : (xws wd tc ad h).length = wd.length := by simp [xws]
theorem xws_inv {wd : List xE} {tc : Nat → ClassId} {ad : Nat → Nat} {h : xH} {c : Nat} {q : Nat × va_E} (hc : (xws wd tc ad h)[c]? = some q) : c < wd.length ∧ q.1 = ad c := by
  have h1 : c < wd.length := by
    have := (List.getElem?_eq_some_iff.mp hc).1
    rwa [xws_len] at this
  refine ⟨h1, ?_⟩
  have h2 := xws_get (tc := tc) (ad := ad) (h := h) (List.getElem?_eq_getElem h1)
  rw [hc] at h2
  rw [Option.some.inj h2]
theorem xu_oth {h : xH} {c : Nat} {i v : Int} {c' : Nat} (hn : c' ≠ c) : xu h c i v c' = h c' := by
  funext j
  simp [xu, hn]
theorem xce_oth {tc : Nat → ClassId} {ad : Nat → Nat} {h h' : xH} {c : Nat} {e : xE} (hh : h' c = h c) : xce tc ad h' c e = xce tc ad h c e := by
  rcases e with ⟨ty, n⟩ | ⟨ci, fs⟩
  · simp [xce, hh]
  · simp only [xce]
    congr 3
    funext k f
    unfold xfv
    split <;> simp [hh]
theorem xws_set {wd : List xE} {tc : Nat → ClassId} {ad : Nat → Nat} {h h' : xH} {c : Nat} {e : xE} (hc : wd[c]? = some e) (ho : ∀ c', c' ≠ c → h' c' = h c') :
    (xws wd tc ad h).set c (ad c, xce tc ad h' c e) = xws wd tc ad h' := by
  apply List.ext_getElem?
  intro k
  rw [List.getElem?_set]
  by_cases hk : c = k
  · subst hk
    have h1 : c < wd.length := (List.getElem?_eq_some_iff.mp hc).1
    rw [if_pos rfl, if_pos (by rw [xws_len]; exact h1), xws_get hc]
  · rw [if_neg hk]
    cases he : wd[k]? with
    | none => simp [xws, List.getElem?_mapIdx, he]
    | some e' =>
      rw [xws_get he, xws_get he, xce_oth (ho k (Ne.symm hk))]
theorem xmi_set {ad : Nat → Nat} {h h' : xH} {c k : Nat} {fs : List (FieldType ⊕ Nat)} {f : FieldType ⊕ Nat} (hf : fs[k]? = some f) (ho : ∀ j : Nat, j ≠ k → h' c j = h c j) :
    (fs.mapIdx (xfv ad h c)).set k (xfv ad h' c k f) = fs.mapIdx (xfv ad h' c) := by
  apply List.ext_getElem?
  intro j
  rw [List.getElem?_set]
  by_cases hk : k = j
  · subst hk
    have h1 : k < fs.length := (List.getElem?_eq_some_iff.mp hf).1
    rw [if_pos rfl, if_pos (by rw [List.length_mapIdx]; exact h1), List.getElem?_mapIdx, hf]
    rfl
  · rw [if_neg hk]
    simp only [List.getElem?_mapIdx]
    cases fs[j]? with
    | none => rfl
    | some g =>
      simp only [Option.map_some, Option.some.injEq]
      unfold xfv
      split <;> simp [ho j (Ne.symm hk)]
/-- which cells a method may change -/
def xA (wd : List xE) (ad : Nat → Nat) (sz : Nat) : Nat → Prop := fun q => (∃ i, i < wd.length ∧ q = ad i) ∨ sz ≤ q
theorem xD {wd : List xE} {tc : Nat → ClassId} {ad : Nat → Nat} {A : Nat → Prop} (hi : ∀ i j, i < wd.length → j < wd.length → ad i = ad j → i = j) (hA : ∀ i, i < wd.length → A (ad i)) (h : xH) : va_D A (xws wd tc ad h) := by
  refine ⟨fun i j p q hp hq hpq => ?_, fun k q hq => ?_⟩
  · obtain ⟨h1, e1⟩ := xws_inv hp
    obtain ⟨h2, e2⟩ := xws_inv hq
    exact hi i j h1 h2 (by rw [← e1, ← e2, hpq])
  · obtain ⟨h1, e1⟩ := xws_inv hq
    rw [e1]; exact hA k h1
/-- the text constants: their cells, and what the JDK's members on them read -/
def xstx : List String := ["pin", "turn", "empty", "fill", "cross", "twist", "half", "cloth", "whole"]
def xlen : List Nat := [3, 4, 5, 4, 5, 5, 4, 5, 5]
def xbyt : List (List Int32) := [[112, 105, 110], [116, 117, 114, 110], [101, 109, 112, 116, 121], [102, 105, 108, 108], [99, 114, 111, 115, 115], [116, 119, 105, 115, 116], [104, 97, 108, 102], [99, 108, 111, 116, 104], [119, 104, 111, 108, 101]]
def xskk : List Nat := [60, 66, 68, 70, 76, 78, 80, 82, 84]
def xS (ad : Nat → Nat) (A : Nat → Prop) (U : State) (H : Heap) : Prop :=
  vk_S 9 xlen xbyt (fun i => ad (1000 + i)) (fun i => ad (2000 + i)) A U H ∧ va_Z "java/lang/String" "COMPACT_STRINGS" "Z" (.int 1) A U H ∧ va_Zq "jdk/internal/util/Preconditions" "SIOOBE_FORMATTER" "Ljava/util/function/BiFunction;" A U H ∧
  ∀ i : Nat, i < 9 → vk_R "LacePins$Tape" (xskk.getD i 0) (xstx.getD i "") (ad (1000 + i)) U
theorem xS.warm {ad : Nat → Nat} {A : Nat → Prop} {s U : State} {H : Heap} (hW : s.WarmedH U.vm) (h : xS ad A s H) : xS ad A U H :=
  ⟨h.1.moved hW.alike, h.2.1.moved hW.alike, h.2.2.1.moved hW.alike, fun i hi => (h.2.2.2 i hi).warm hW⟩
theorem xS.same {ad : Nat → Nat} {A : Nat → Prop} {u U : State} {H : Heap} (hv : U.vm = u.vm) (h : xS ad A u H) : xS ad A U H :=
  ⟨h.1.moved (by rw [hv]; exact Vm.Alike.refl _), h.2.1.moved (by rw [hv]; exact Vm.Alike.refl _), h.2.2.1.moved (by rw [hv]; exact Vm.Alike.refl _), fun i hi => (h.2.2.2 i hi).same hv⟩
theorem xS.kept {ad : Nat → Nat} {A : Nat → Prop} {U : State} {H H1 : Heap} (h : xS ad A U H) (hq : ∀ a : Nat, a < H.size → ¬ A a → H1[a]? = H[a]?) : xS ad A U H1 :=
  ⟨h.1.kept hq, h.2.1.kept hq, h.2.2.1.kept hq, h.2.2.2⟩
theorem xS.narrow {ad : Nat → Nat} {A B : Nat → Prop} {U : State} {H : Heap} (h : xS ad A U H) (hAB : ∀ q, B q → A q) : xS ad B U H :=
  ⟨h.1.narrow hAB, h.2.1.narrow hAB, h.2.2.1.narrow hAB, h.2.2.2⟩
/-- locals: what is known of them -/
def xLs (ad : Nat → Nat) (lsA : Array Slot) (nL : Nat) (ls : List (Option xV)) : Prop := lsA.size = nL ∧ lv_wf lsA ∧ ∀ (k : Nat) (v : xV), ls[k]? = some (some v) → lsA[k]? = some (.val (xc ad v))
/-- what stays through a method's body -/
def xK (wd : List xE) (d : Nat) (mi : xM) (p : Program) (R : Room) (s : State) (m : MethodId) (args : Array Value) (meth : Method) (c : Code) (D : va_G) (tc : Nat → ClassId) (ad : Nat → Nat) (A : Nat → Prop) : Prop :=
  p.tables.exec = Jvm.exec ∧ c.code = mi.2.1 ∧ c.maxLocals = mi.2.2.1 ∧ meth.sig.returnType = mi.2.2.2 ∧ meth.locks = false ∧ s.vm.findClass mi.1.cls = some m.cls ∧ (∀ w ∈ xwm mi, w.before args s = true) ∧
  va_K D vwCl (xT tc) s ∧ xN s ∧ (∀ i j, i < wd.length → j < wd.length → ad i = ad j → i = j) ∧ (∀ i, i < wd.length → A (ad i)) ∧ (∀ q, s.heap.size ≤ q → A q) ∧ (d ≤ R.frames ∧ 60 * d ≤ R.locals) ∧ xS ad A s s.heap
/-- a method's end -/
def xQ (wd : List xE) (D : va_G) (tc : Nat → ClassId) (ad : Nat → Nat) (A : Nat → Prop) (Q : Option xV → xH → Prop) : Array Value → State → Outcome → State → Prop := fun _ st oc t =>
  (∃ (r : Option xV) (h' : xH), oc = .returned (r.map (xc ad)) ∧ Q r h' ∧ va_P D vwCl (xws wd tc ad h') t.heap) ∧ va_F A st t
/-- THE JUDGEMENT: from here the method ends, and Q holds of its answer and of what the cells hold then -/
def xG (wd : List xE) (d : Nat) (mi : xM) (pc : Nat) (ls : List (Option xV)) (st : List xV) (h : xH) (Q : Option xV → xH → Prop) : Prop :=
  ∀ (p : Program) (l : Launch) (e : Env) (R : Room) (s : State) (m : MethodId) (args : Array Value) (below : List Frame) (meth : Method) (c : Code) (D : va_G) (tc : Nat → ClassId) (ad : Nat → Nat) (A : Nat → Prop) (H : Heap) (locs : List Loc) (cells slots : Nat) (lsA : Array Slot),
    xK wd d mi p R s m args meth c D tc ad A → xLs ad lsA mi.2.2.1 ls → va_P D vwCl (xws wd tc ad h) H → va_S A s.heap H locs → (cells ≤ R.cells ∧ slots ≤ R.slots) →
    W p l e R s m args below meth c H locs cells slots (MQ below (xQ wd D tc ad A Q) args s cells slots A) (F0 m pc lsA (st.map (xc ad)))
/-- the locals at a method's entry -/
def xent0 : List xV → List (Option xV)
  | [] => []
  | .inr (.inl n) :: r => some (.inr (.inl n)) :: none :: xent0 r
  | .inl n :: r => some (.inl n) :: xent0 r
  | .inr (.inr c) :: r => some (.inr (.inr c)) :: xent0 r
def xent (n : Nat) (as : List xV) : List (Option xV) := xent0 as ++ List.replicate (n - (xent0 as).length) none
theorem xent0_args (ad : Nat → Nat) : ∀ (as : List xV) (i k : Nat) (v : xV), (xent0 as)[k]? = some (some v) → (i + k, xc ad v) ∈ lv_args i (as.map (xc ad)) := by
  intro as
  induction as with
  | nil => intro i k v h; simp [xent0] at h
  | cons a as ih =>
    intro i k v h
    rcases a with n | n | c
    · simp only [List.map_cons, lv_args]
      cases k with
      | zero => simp [xent0] at h; subst h; simp
      | succ k =>
        simp [xent0] at h
        have := ih (i + 1) k v h
        refine List.mem_cons_of_mem _ ?_
        rw [if_neg (by simp [xc, Value.category])]
        have e : i + (k + 1) = i + 1 + k := by omega
        rw [e]; exact this
    · simp only [List.map_cons, lv_args]
      cases k with
      | zero => simp [xent0] at h; subst h; simp
      | succ k =>
        cases k with
        | zero => simp [xent0] at h
        | succ k =>
          simp [xent0] at h
          have := ih (i + 2) k v h
          refine List.mem_cons_of_mem _ ?_
          rw [if_pos (by simp [xc, Value.category])]
          have e : i + (k + 1 + 1) = i + 2 + k := by omega
          rw [e]; exact this
    · simp only [List.map_cons, lv_args]
      cases k with
      | zero => simp [xent0] at h; subst h; simp
      | succ k =>
        simp [xent0] at h
        have := ih (i + 1) k v h
        refine List.mem_cons_of_mem _ ?_
        rw [if_neg (by simp [xc, Value.category])]
        have e : i + (k + 1) = i + 1 + k := by omega
        rw [e]; exact this
theorem xent_args (ad : Nat → Nat) (n : Nat) (as : List xV) (k : Nat) (v : xV) (h : (xent n as)[k]? = some (some v)) : (k, xc ad v) ∈ lv_args 0 (as.map (xc ad)) := by
  have h1 : (xent0 as)[k]? = some (some v) := by
    unfold xent at h
    rw [List.getElem?_append] at h
    split at h
    · exact h
    · rw [List.getElem?_replicate] at h
      split at h <;> simp at h
  have := xent0_args ad as 0 k v h1
  rwa [Nat.zero_add] at this
theorem lg_sl_len (ad : Nat → Nat) : ∀ as : List xV, (lg_sl (as.map (xc ad))).length = (xent0 as).length := by
  intro as
  induction as with
  | nil => rfl
  | cons a as ih =>
    rcases a with n | n | c
    · simp [xent0, ← ih]; rfl
    · simp [xent0, ← ih]; rfl
    · simp [xent0, ← ih]; rfl
end
section
/-! contracts out of the judgement, and calls -/
def xroom (d : Nat) : Room := { frames := d, cells := 0, slots := 0, locals := 60 * d }
def xPc (wd : List xE) (D : va_G) (tc : Nat → ClassId) (ad : Nat → Nat) (as : List xV) (h : xH) (sz : Nat) : Array Value → State → Prop :=
  va_Pc (as.map (xc ad)) (fun U => U.heap.size = sz ∧ va_P D vwCl (xws wd tc ad h) U.heap ∧ va_K D vwCl (xT tc) U ∧ xN U ∧ xS ad (xA wd ad sz) U U.heap)
theorem xPc_blind {wd : List xE} {D : va_G} {tc : Nat → ClassId} {ad : Nat → Nat} {as : List xV} {h : xH} {sz : Nat} : FrameBlind (xPc wd D tc ad as h sz) := by
  intro a U g mk q
  obtain ⟨q0, q1, qP, qK, qN, qS⟩ := q
  exact ⟨q0, q1, qP, va_K.moved (u := U) (U := U.calling g mk a) (Vm.Alike.refl U.vm) qK, xN.same (u := U) (U := U.calling g mk a) rfl qN, xS.same (u := U) (U := U.calling g mk a) rfl qS⟩
theorem x_met {wd : List xE} {d : Nat} {mj : xM} {as : List xV} {h : xH} {Q : Option xV → xH → Prop} (hy : plainName mj.1.cls = true) (hfit : (xent0 as).length ≤ mj.2.2.1) (hG : xG wd d mj 0 (xent mj.2.2.1 as) [] h Q)
    (l : Launch) (D : va_G) (tc : Nat → ClassId) (ad : Nat → Nat) (hi : ∀ i j, i < wd.length → j < wd.length → ad i = ad j → i = j) (sz : Nat) :
    Met l mj.1 (xwm mj) (xroom d) (xPc wd D tc ad as h sz) (xQ wd D tc ad (xA wd ad sz) Q) 0 0 (xA wd ad sz) := by
  refine Met.ofW (cc := mj.2.1) (maxL := mj.2.2.1) (ret := mj.2.2.2) hy rfl ?_
  intro p e s m args below meth c s₁ B hml hv
  obtain ⟨rfl, hsz, hP, hK, hN, hS⟩ := hv
  have hts := atoms_spec (ws := xwm mj) B.pre
  have hl := lv_entry (as.map (xc ad)) (n := mj.2.2.1) (by rw [lg_sl_len]; exact hfit)
  rw [lg_entry_eq]
  generalize (lg_sl (as.map (xc ad)) ++ List.replicate (mj.2.2.1 - (lg_sl (as.map (xc ad))).length) Slot.unset).toArray = ls at hl ⊢
  subst hsz
  refine hG p l e (headSpec (xwm mj) (xroom d)).room s m _ below meth c D tc ad _ s.heap [] 0 0 ls ?_ ⟨hl.1, hl.2.1, fun k v hk => hl.2.2 (k, xc ad v) (xent_args ad _ as k v hk)⟩ hP va_S.rf ⟨Nat.zero_le _, Nat.zero_le _⟩
  exact ⟨B.exec, B.bytes, hml, B.returns, B.notSynchronized, findClass_of_methodNamed B.named, hts, hK, hN, hi, fun i h => Or.inl ⟨i, h, rfl⟩, fun q h => Or.inr h, ⟨Nat.le_refl _, Nat.le_refl _⟩, hS⟩
theorem x_after {p : Program} {l : Launch} {e : Env} {R : Room} {s : State} {m : MethodId} {args : Array Value} {below : List Frame} {meth : Method} {c : Code} {H : Heap} {locs : List Loc} {cells slots : Nat} {Q : State → Prop}
    {wd : List xE} {D : va_G} {tc : Nat → ClassId} {ad : Nat → Nat} {A A1 : Nat → Prop} {Q1 : Option xV → xH → Prop} {a : Array Value} {pc : Nat} {lsA : Array Slot} {st0 rest : List Value}
    (hr : va_Run p l e R s m args below meth c H locs cells slots 0 0 (F0 m pc lsA st0) rest (xQ wd D tc ad A1 Q1 a) A1) (hS : va_S A s.heap H locs) (hA : ∀ q, A1 q → A q)
    (kk : ∀ (r : Option xV) (h1 : xH) (H1 : Heap) (locs1 : List Loc), Q1 r h1 → va_P D vwCl (xws wd tc ad h1) H1 → va_S A s.heap H1 locs1 → H.size ≤ H1.size → (∀ q : Nat, q < H.size → ¬ A1 q → H1[q]? = H[q]?) → W p l e R s m args below meth c H1 locs1 cells slots Q (F0 m (pc + 3) lsA ((r.map (xc ad)).toList ++ rest))) :
    W p l e R s m args below meth c H locs cells slots Q (F0 m pc lsA st0) := by
  intro T hT X
  obtain ⟨v, st₀, t, T', L, h0, X', hL, e1, e2, ⟨⟨r, h1, hv, hq, hP1⟩, hz, hk⟩, st⟩ := hr T hT X
  cases hv
  rw [h0] at hz hk
  obtain ⟨t2, a1, b1⟩ := kk r h1 T'.heap (locs ++ L) hq (by rw [e1]; exact hP1)
    ⟨Nat.le_trans hS.1 (by rw [e1]; exact hz), fun q g1 g2 => by rw [e1, hk q (Nat.lt_of_lt_of_le g1 hS.1) (fun z => g2 (hA q z))]; exact hS.2.1 q g1 g2, fun q hq => by
      rcases List.mem_append.mp hq with g | g
      · exact hS.2.2 q g
      · exact hA _ (hL q g)⟩ (by rw [e1]; exact hz) (fun q g1 g2 => by rw [e1]; exact hk q g1 g2) T' rfl X'
  exact ⟨t2, st t2 a1, b1⟩
/-- what a call site needs of the tables: kind 0 invokevirtual, 1 invokestatic (plain links), 2, 3 the same by a nest mate -/
def xLink (mi mj : xM) (n idx : Nat) : Prop :=
  Cond.code mj.1 mj.2.1 mj.2.2.1 mj.2.2.2 ∈ tblG ∧ Cond.initialized mj.1.cls ∈ tblG ∧ plainName mj.1.cls = true ∧ mj.2.2.1 ≤ 41 ∧
  (mj.1.cls ≠ "java/lang/invoke/MethodHandle" ∧ mj.1.cls ≠ "java/lang/invoke/VarHandle" ∧ (parseMethodDescriptor mj.1.desc).map (fun d => d.parameters.length) = some n) ∧
  (Cond.methodLink mi.1.cls idx mj.1 ∈ tblG)
def xLinkN (mi mj : xM) (n idx : Nat) : Prop :=
  Cond.code mj.1 mj.2.1 mj.2.2.1 mj.2.2.2 ∈ tblG ∧ Cond.initialized mj.1.cls ∈ tblG ∧ plainName mj.1.cls = true ∧ mj.2.2.1 ≤ 41 ∧
  (mj.1.cls ≠ "java/lang/invoke/MethodHandle" ∧ mj.1.cls ≠ "java/lang/invoke/VarHandle" ∧ (parseMethodDescriptor mj.1.desc).map (fun d => d.parameters.length) = some n) ∧
  (∃ host, Cond.methodLinkNest mi.1.cls idx mj.1 host ∈ tblN)
section XC
variable {wd : List xE} {d : Nat} {mi mj : xM} {pc : Nat} {ls : List (Option xV)} {h : xH} {Q Q1 : Option xV → xH → Prop} {As rest : List xV}
theorem x_pre {s U : State} {H : Heap} {locs : List Loc} {D : va_G} {tc : Nat → ClassId} {ad : Nat → Nat} {A : Nat → Prop} {as : List xV} (hK : va_K D vwCl (xT tc) s) (hN : xN s) (hX : xS ad A s s.heap) (hA1 : ∀ q, xA wd ad H.size q → A q) (hP : va_P D vwCl (xws wd tc ad h) H) (hS : va_S A s.heap H locs)
    (hU : U.heap = H) (hW : s.WarmedH U.vm) : xPc wd D tc ad as h H.size (as.map (xc ad)).toArray U :=
  ⟨rfl, by rw [hU], by rw [hU]; exact hP, va_K.moved hW.alike hK, hN.warm hW, by rw [hU]; exact ((hX.kept hS.2.1).narrow hA1).warm hW⟩
theorem x_rm {R : Room} {n : Nat} (hn : n ≤ 41) (hd : 1 ≤ d) (hr : d ≤ R.frames ∧ 60 * d ≤ R.locals) : (xroom (d - 1)).frames + 1 ≤ R.frames ∧ 8 + (n + 11) + (xroom (d - 1)).locals ≤ R.locals := by
  simp only [xroom]
  omega
theorem x_callV {c idx ci : Nat} {C : vw_C} {fs : List (FieldType ⊕ Nat)} (hL : xLink mi mj As.length idx) (hin : Cond.instanceMethod mj.1 ∈ tblG) (hsel : Cond.selects mj.1.cls mj.1 mj.1 ∈ tblG)
    (hc : wd[c]? = some (.inr (ci, fs))) (hcl : vwCl[ci]? = some C) (hC : C.1 = mj.1.cls) (hfit : (xent0 (.inr (.inr c) :: As)).length ≤ mj.2.2.1) (hrest : (rest.map xcat).sum ≤ 8)
    (hdg : decode mi.2.1 pc = .ok (.invokevirtual idx, 3)) (hd : 1 ≤ d) (hG : xG wd (d - 1) mj 0 (xent mj.2.2.1 (.inr (.inr c) :: As)) [] h Q1)
    (kk : ∀ r h1, Q1 r h1 → xG wd d mi (pc + 3) ls (r.toList ++ rest) h1 Q) : xG wd d mi pc ls (As.reverse ++ .inr (.inr c) :: rest) h Q := by
  intro p l e R s m args below meth cd D tc ad A H locs cells slots lsA hK hl hP hS hcs
  obtain ⟨hx, hb, hml, hr, hlk, hown, hts, hKK, hN, hi, hAi, hAq, hR, hX⟩ := id hK
  have hA1 : ∀ q, xA wd ad H.size q → A q := fun q hq => by
    rcases hq with ⟨i, h1, rfl⟩ | h1
    · exact hAi i h1
    · exact hAq q (Nat.le_trans hS.1 h1)
  have hM := x_met (wd := wd) hL.2.2.1 hfit hG l D tc ad hi H.size
  have hin' : (∀ w ∈ tblG, w.before args s = true) := fun w hw => hts w (List.mem_cons_of_mem _ hw)
  refine x_after (va_runV (C := mj.1.cls) (As := As.map (xc ad)) (rest := rest.map (xc ad)) (n := As.length) (b := ad c) ⟨hx, hb, hml, hown, hts⟩ hM
    ⟨callB_of As.length hts (xgood hL.1) rfl rfl rfl (hin' _ hL.2.1) (hin' _ hL.2.2.2.2.2) hL.2.2.2.2.1 (x_rm hL.2.2.2.1 hd hR), hin' _ hin, hin' _ hsel⟩
    ⟨xPc_blind, by rw [← hC]; exact va_recv hKK hP hcl (xws_get hc), fun U hU hW => x_pre hKK hN hX hA1 hP hS hU hW⟩ rfl (by simp) hl.1 (by simp [xc]) (lv_room (by rw [xcat_sum]; exact hrest)) hdg hcs) hS hA1 ?_
  intro r h1 H1 locs1 hq hP1 hS1 hz1 hk1
  have := kk r h1 hq p l e R s m args below meth cd D tc ad A H1 locs1 cells slots lsA hK hl hP1 hS1 hcs
  cases r <;> simpa using this
theorem x_callS {idx : Nat} (hL : xLink mi mj As.length idx) (hst : Cond.static mj.1 ∈ tblG) (hfit : (xent0 As).length ≤ mj.2.2.1) (hrest : (rest.map xcat).sum ≤ 8)
    (hdg : decode mi.2.1 pc = .ok (.invokestatic idx, 3)) (hd : 1 ≤ d) (hG : xG wd (d - 1) mj 0 (xent mj.2.2.1 As) [] h Q1)
    (kk : ∀ r h1, Q1 r h1 → xG wd d mi (pc + 3) ls (r.toList ++ rest) h1 Q) : xG wd d mi pc ls (As.reverse ++ rest) h Q := by
  intro p l e R s m args below meth cd D tc ad A H locs cells slots lsA hK hl hP hS hcs
  obtain ⟨hx, hb, hml, hr, hlk, hown, hts, hKK, hN, hi, hAi, hAq, hR, hX⟩ := id hK
  have hA1 : ∀ q, xA wd ad H.size q → A q := fun q hq => by
    rcases hq with ⟨i, h1, rfl⟩ | h1
    · exact hAi i h1
    · exact hAq q (Nat.le_trans hS.1 h1)
  have hM := x_met (wd := wd) hL.2.2.1 hfit hG l D tc ad hi H.size
  have hin' : (∀ w ∈ tblG, w.before args s = true) := fun w hw => hts w (List.mem_cons_of_mem _ hw)
  refine x_after (va_runS (As := As.map (xc ad)) (rest := rest.map (xc ad)) (n := As.length) ⟨hx, hb, hml, hown, hts⟩ hM
    ⟨callB_of As.length hts (xgood hL.1) rfl rfl rfl (hin' _ hL.2.1) (hin' _ hL.2.2.2.2.2) hL.2.2.2.2.1 (x_rm hL.2.2.2.1 hd hR), hin' _ hst⟩
    ⟨xPc_blind, fun U hU hW => x_pre hKK hN hX hA1 hP hS hU hW⟩ rfl (by simp) hl.1 (by simp) (lv_room (by rw [xcat_sum]; exact hrest)) hdg hcs) hS hA1 ?_
  intro r h1 H1 locs1 hq hP1 hS1 hz1 hk1
  have := kk r h1 hq p l e R s m args below meth cd D tc ad A H1 locs1 cells slots lsA hK hl hP1 hS1 hcs
  cases r <;> simpa using this
theorem x_callSN {idx : Nat} (hL : xLinkN mi mj As.length idx) (hst : Cond.static mj.1 ∈ tblG) (hfit : (xent0 As).length ≤ mj.2.2.1) (hrest : (rest.map xcat).sum ≤ 8)
    (hdg : decode mi.2.1 pc = .ok (.invokestatic idx, 3)) (hd : 1 ≤ d) (hG : xG wd (d - 1) mj 0 (xent mj.2.2.1 As) [] h Q1)
    (kk : ∀ r h1, Q1 r h1 → xG wd d mi (pc + 3) ls (r.toList ++ rest) h1 Q) : xG wd d mi pc ls (As.reverse ++ rest) h Q := by
  intro p l e R s m args below meth cd D tc ad A H locs cells slots lsA hK hl hP hS hcs
  obtain ⟨hx, hb, hml, hr, hlk, hown, hts, hKK, hN, hi, hAi, hAq, hR, hX⟩ := id hK
  have hA1 : ∀ q, xA wd ad H.size q → A q := fun q hq => by
    rcases hq with ⟨i, h1, rfl⟩ | h1
    · exact hAi i h1
    · exact hAq q (Nat.le_trans hS.1 h1)
  have hM := x_met (wd := wd) hL.2.2.1 hfit hG l D tc ad hi H.size
  have hin' : (∀ w ∈ tblG, w.before args s = true) := fun w hw => hts w (List.mem_cons_of_mem _ hw)
  obtain ⟨host, hnl⟩ := hL.2.2.2.2.2
  refine x_after (va_runSN (As := As.map (xc ad)) (rest := rest.map (xc ad)) (n := As.length) ⟨hx, hb, hml, hown, hts⟩ hM
    ⟨va_cnB As.length hts (xgood hL.1) rfl rfl rfl (hN _ hnl) (hin' _ hL.2.1) hL.2.2.2.2.1 (x_rm hL.2.2.2.1 hd hR), hin' _ hst, trivial⟩
    ⟨xPc_blind, fun U hU hW => x_pre hKK hN hX hA1 hP hS hU hW⟩ rfl (by simp) hl.1 (by simp) (lv_room (by rw [xcat_sum]; exact hrest)) hdg hcs) hS hA1 ?_
  intro r h1 H1 locs1 hq hP1 hS1 hz1 hk1
  have := kk r h1 hq p l e R s m args below meth cd D tc ad A H1 locs1 cells slots lsA hK hl hP1 hS1 hcs
  cases r <;> simpa using this
/-- fewer things known of the locals -/
theorem x_weak {ls' : List (Option xV)} {st : List xV} (hw : ∀ (k : Nat) (v : xV), ls'[k]? = some (some v) → ls[k]? = some (some v)) (k : xG wd d mi pc ls' st h Q) : xG wd d mi pc ls st h Q := by
  intro p l e R s m args below meth cd D tc ad A H locs cells slots lsA hK hl hP hS hcs
  exact k p l e R s m args below meth cd D tc ad A H locs cells slots lsA hK ⟨hl.1, hl.2.1, fun k v hk => hl.2.2 k v (hw k v hk)⟩ hP hS hcs
end XC
end
section
/-! the machine's numbers as integers -/
def xandI (a b : Int) : Int := (BitVec.ofInt 32 a &&& BitVec.ofInt 32 b).toInt
def xorI (a b : Int) : Int := (BitVec.ofInt 32 a ||| BitVec.ofInt 32 b).toInt
def xxorI (a b : Int) : Int := (BitVec.ofInt 32 a ^^^ BitVec.ofInt 32 b).toInt
def xandL (a b : Int) : Int := (BitVec.ofInt 64 a &&& BitVec.ofInt 64 b).toInt
def xorL (a b : Int) : Int := (BitVec.ofInt 64 a ||| BitVec.ofInt 64 b).toInt
def xxorL (a b : Int) : Int := (BitVec.ofInt 64 a ^^^ BitVec.ofInt 64 b).toInt
theorem i32_and (a b : Int) : Int32.ofInt a &&& Int32.ofInt b = Int32.ofInt (xandI a b) := by
  apply Int32.toBitVec_inj.mp
  rw [Int32.toBitVec_and, Int32.toBitVec_ofInt, Int32.toBitVec_ofInt, Int32.toBitVec_ofInt, xandI, BitVec.ofInt_toInt]
theorem i32_or (a b : Int) : Int32.ofInt a ||| Int32.ofInt b = Int32.ofInt (xorI a b) := by
  apply Int32.toBitVec_inj.mp
  rw [Int32.toBitVec_or, Int32.toBitVec_ofInt, Int32.toBitVec_ofInt, Int32.toBitVec_ofInt, xorI, BitVec.ofInt_toInt]
theorem i32_xor (a b : Int) : Int32.ofInt a ^^^ Int32.ofInt b = Int32.ofInt (xxorI a b) := by
  apply Int32.toBitVec_inj.mp
  rw [Int32.toBitVec_xor, Int32.toBitVec_ofInt, Int32.toBitVec_ofInt, Int32.toBitVec_ofInt, xxorI, BitVec.ofInt_toInt]
theorem i64_and (a b : Int) : Int64.ofInt a &&& Int64.ofInt b = Int64.ofInt (xandL a b) := by
  apply Int64.toBitVec_inj.mp
  rw [Int64.toBitVec_and, Int64.toBitVec_ofInt, Int64.toBitVec_ofInt, Int64.toBitVec_ofInt, xandL, BitVec.ofInt_toInt]
theorem i64_or (a b : Int) : Int64.ofInt a ||| Int64.ofInt b = Int64.ofInt (xorL a b) := by
  apply Int64.toBitVec_inj.mp
  rw [Int64.toBitVec_or, Int64.toBitVec_ofInt, Int64.toBitVec_ofInt, Int64.toBitVec_ofInt, xorL, BitVec.ofInt_toInt]
theorem i64_xor (a b : Int) : Int64.ofInt a ^^^ Int64.ofInt b = Int64.ofInt (xxorL a b) := by
  apply Int64.toBitVec_inj.mp
  rw [Int64.toBitVec_xor, Int64.toBitVec_ofInt, Int64.toBitVec_ofInt, Int64.toBitVec_ofInt, xxorL, BitVec.ofInt_toInt]
theorem i32_toInt {a : Int} (h : inI a) : (Int32.ofInt a).toInt = a := by
  rw [Int32.toInt_ofInt]
  obtain ⟨h1, h2⟩ := h
  apply Int.bmod_eq_of_le <;> simp [Int32.size] <;> omega
theorem i64_toInt {a : Int} (h : inL a) : (Int64.ofInt a).toInt = a := by
  rw [Int64.toInt_ofInt]
  obtain ⟨h1, h2⟩ := h
  apply Int.bmod_eq_of_le <;> simp [Int64.size] <;> omega
theorem i32_lt {a b : Int} (ha : inI a) (hb : inI b) : Int32.ofInt a < Int32.ofInt b ↔ a < b := by
  rw [Int32.lt_iff_toInt_lt, i32_toInt ha, i32_toInt hb]
theorem i32_le {a b : Int} (ha : inI a) (hb : inI b) : Int32.ofInt a ≤ Int32.ofInt b ↔ a ≤ b := by
  rw [Int32.le_iff_toInt_le, i32_toInt ha, i32_toInt hb]
theorem i32_eq {a b : Int} (ha : inI a) (hb : inI b) : Int32.ofInt a = Int32.ofInt b ↔ a = b := by
  rw [← Int32.toInt_inj, i32_toInt ha, i32_toInt hb]
theorem i64_lt {a b : Int} (ha : inL a) (hb : inL b) : Int64.ofInt a < Int64.ofInt b ↔ a < b := by
  rw [Int64.lt_iff_toInt_lt, i64_toInt ha, i64_toInt hb]
theorem i64_eq {a b : Int} (ha : inL a) (hb : inL b) : Int64.ofInt a = Int64.ofInt b ↔ a = b := by
  rw [← Int64.toInt_inj, i64_toInt ha, i64_toInt hb]
theorem inI_0 : inI 0 := ⟨by decide, by decide⟩
theorem i32_nat {a : Int} (h0 : 0 ≤ a) : Int32.ofInt a = nI a.toNat := by
  obtain ⟨n, rfl⟩ := Int.eq_ofNat_of_zero_le h0
  rfl
theorem i32_clamp {a : Int} (h0 : 0 ≤ a) (h : a < 2147483648) : (Int32.ofInt a).toNatClampNeg = a.toNat := by
  rw [i32_nat h0]
  exact nI_clamp (by omega)
theorem i32_in {a : Int} {n : Nat} (h0 : 0 ≤ a) (h : a < n) (hn : n ≤ 2147483647) : vp_in (Int32.ofInt a) n := by
  rw [i32_nat h0]
  exact vp_in_nI (by omega) (by omega)
theorem sh32 : ∀ j : Nat, j < 32 → ((Int32.ofInt (j : Int) &&& 31).toBitVec.smod 32).toNat = j := by decide +kernel
theorem sh64 : ∀ j : Nat, j < 64 → (((Int32.ofInt (j : Int)).toInt64 &&& 63).toBitVec.smod 64).toNat = j := by decide +kernel
theorem ush32 : ∀ j : Nat, j < 32 → (((Int32.ofInt (j : Int)).toUInt32 &&& Int32.toUInt32 31).toBitVec % 32).toNat = j := by decide +kernel
theorem x_shl_arith (a : Int) (k m : Nat) (hm : m ≠ 0) : ((a % (m : Int)).toNat * 2 ^ k) % m = ((a * 2 ^ k) % (m : Int)).toNat := by
  · have hm' : (m : Int) ≠ 0 := by omega
    have h1 : 0 ≤ a % (m : Int) := Int.emod_nonneg a hm'
    have h2 : 0 ≤ (a * 2 ^ k) % (m : Int) := Int.emod_nonneg _ hm'
    apply Int.ofNat_inj.mp
    rw [Int.toNat_of_nonneg h2]
    simp only [Int.natCast_emod, Int.natCast_mul, Int.toNat_of_nonneg h1, Int.natCast_pow, Int.cast_ofNat_Int]
    rw [Int.mul_emod, Int.emod_emod_of_dvd _ (Int.dvd_refl _), ← Int.mul_emod]
theorem i32_shl (a : Int) {k : Int} (h0 : 0 ≤ k) (h1 : k ≤ 31) : Int32.ofInt a <<< (Int32.ofInt k &&& 31) = Int32.ofInt (a * 2 ^ k.toNat) := by
  obtain ⟨j, rfl⟩ := Int.eq_ofNat_of_zero_le h0
  apply Int32.toBitVec_inj.mp
  apply BitVec.eq_of_toNat_eq
  rw [pk_shl _ _ j (sh32 j (by omega))]
  simp only [Int32.toBitVec_ofInt, BitVec.toNat_ofInt, Int.toNat_natCast]
  exact x_shl_arith a j (2 ^ 32) (by decide)
theorem i64_shl (a : Int) {k : Int} (h0 : 0 ≤ k) (h1 : k ≤ 63) : Int64.ofInt a <<< ((Int32.ofInt k).toInt64 &&& 63) = Int64.ofInt (a * 2 ^ k.toNat) := by
  obtain ⟨j, rfl⟩ := Int.eq_ofNat_of_zero_le h0
  apply Int64.toBitVec_inj.mp
  apply BitVec.eq_of_toNat_eq
  show ((Int64.ofInt a).toBitVec <<< (((Int32.ofInt (j : Int)).toInt64 &&& 63).toBitVec.smod 64).toNat).toNat = _
  rw [sh64 j (by omega), BitVec.toNat_shiftLeft, Nat.shiftLeft_eq]
  simp only [Int64.toBitVec_ofInt, BitVec.toNat_ofInt, Int.toNat_natCast]
  exact x_shl_arith a j (2 ^ 64) (by decide)
theorem x_div_in {a : Int} (k : Nat) : (0 ≤ a → 0 ≤ a / 2 ^ k ∧ a / 2 ^ k ≤ a) ∧ (a < 0 → a ≤ a / 2 ^ k ∧ a / 2 ^ k < 0) := by
  have hp : (0 : Int) < 2 ^ k := Int.pow_pos (by omega)
  refine ⟨fun h => ⟨Int.ediv_nonneg h (by omega), Int.ediv_le_self _ h⟩, fun h => ⟨?_, Int.ediv_neg_of_neg_of_pos h hp⟩⟩
  apply Int.le_ediv_of_mul_le hp
  have : a * 2 ^ k ≤ a * 1 := Int.mul_le_mul_of_nonpos_left (by omega) (by omega)
  omega
theorem i32_shr {a k : Int} (ha : inI a) (h0 : 0 ≤ k) (h1 : k ≤ 31) : Int32.ofInt a >>> (Int32.ofInt k &&& 31) = Int32.ofInt (a / 2 ^ k.toNat) := by
  obtain ⟨j, rfl⟩ := Int.eq_ofNat_of_zero_le h0
  apply Int32.toInt_inj.mp
  have h2 := x_div_in (a := a) j
  have h3 : inI (a / 2 ^ j) := by
    obtain ⟨q1, q2⟩ := ha
    unfold inI
    rcases Int.lt_or_le a 0 with h | h
    · have := h2.2 h; omega
    · have := h2.1 h; omega
  rw [pk_shr _ _ j (sh32 j (by omega)), i32_toInt ha, Int.shiftRight_eq_div_pow]
  simp only [Int.toNat_natCast]
  rw [i32_toInt h3]
  simp
theorem i64_shr {a k : Int} (ha : inL a) (h0 : 0 ≤ k) (h1 : k ≤ 63) : Int64.ofInt a >>> ((Int32.ofInt k).toInt64 &&& 63) = Int64.ofInt (a / 2 ^ k.toNat) := by
  obtain ⟨j, rfl⟩ := Int.eq_ofNat_of_zero_le h0
  apply Int64.toInt_inj.mp
  have h2 := x_div_in (a := a) j
  have h3 : inL (a / 2 ^ j) := by
    obtain ⟨q1, q2⟩ := ha
    unfold inL
    rcases Int.lt_or_le a 0 with h | h
    · have := h2.2 h; omega
    · have := h2.1 h; omega
  show ((Int64.ofInt a).toBitVec.sshiftRight (((Int32.ofInt (j : Int)).toInt64 &&& 63).toBitVec.smod 64).toNat).toInt = _
  rw [sh64 j (by omega), BitVec.toInt_sshiftRight]
  show (Int64.ofInt a).toInt >>> j = _
  rw [i64_toInt ha, Int.shiftRight_eq_div_pow]
  simp only [Int.toNat_natCast]
  rw [i64_toInt h3]
  simp
theorem i32_ushr {a k : Int} (ha : 0 ≤ a) (ha2 : inI a) (h0 : 0 ≤ k) (h1 : k ≤ 31) : ((Int32.ofInt a).toUInt32 >>> ((Int32.ofInt k).toUInt32 &&& Int32.toUInt32 31)).toInt32 = Int32.ofInt (a / 2 ^ k.toNat) := by
  obtain ⟨j, rfl⟩ := Int.eq_ofNat_of_zero_le h0
  obtain ⟨n, rfl⟩ := Int.eq_ofNat_of_zero_le ha
  have := pk_ushrN (n := n) (by unfold inI at ha2; omega) (Int32.ofInt (j : Int)) j (ush32 j (by omega))
  rw [show Int32.ofInt (n : Int) = nI n from rfl, this]
  simp only [Int.toNat_natCast]
  have e : (n : Int) / 2 ^ j = ((n / 2 ^ j : Nat) : Int) := by simp
  rw [e]; rfl
theorem i32_div {a b : Int} (ha : 0 ≤ a) (ha2 : inI a) (hb : 0 < b) (hb2 : inI b) : Int32.ofInt a / Int32.ofInt b = Int32.ofInt (a / b) := by
  obtain ⟨n, rfl⟩ := Int.eq_ofNat_of_zero_le ha
  obtain ⟨j, rfl⟩ := Int.eq_ofNat_of_zero_le (Int.le_of_lt hb)
  unfold inI at ha2 hb2
  have := pk_div (a := n) (d := j) (by omega) (by omega) (by omega)
  exact this
theorem i32_rem {a b : Int} (ha : 0 ≤ a) (ha2 : inI a) (hb : 0 < b) (hb2 : inI b) : Int32.ofInt a - Int32.ofInt a / Int32.ofInt b * Int32.ofInt b = Int32.ofInt (a % b) := by
  obtain ⟨n, rfl⟩ := Int.eq_ofNat_of_zero_le ha
  obtain ⟨j, rfl⟩ := Int.eq_ofNat_of_zero_le (Int.le_of_lt hb)
  unfold inI at ha2 hb2
  have := pk_rem (a := n) (d := j) (by omega) (by omega) (by omega)
  exact this
theorem i32_ne0 {b : Int} (hb : 0 < b) (hb2 : inI b) : ¬ Int32.ofInt b = 0 := by
  intro h
  have := (i32_eq hb2 inI_0).mp h
  omega
theorem i32_l {a : Int} (ha : inI a) : (Int32.ofInt a).toInt64 = Int64.ofInt a := by
  apply Int64.toInt_inj.mp
  rw [Int32.toInt_toInt64, i32_toInt ha, i64_toInt ⟨by have := ha.1; omega, by have := ha.2; omega⟩]
/-- lcmp -/
def xcmp (a b : Int) : Int := if b < a then 1 else if a = b then 0 else -1
theorem i64_cmp {a b : Int} (ha : inL a) (hb : inL b) : lg_cmp (Int64.ofInt a) (Int64.ofInt b) = Int32.ofInt (xcmp a b) := by
  unfold lg_cmp xcmp
  simp only [gt_iff_lt, i64_lt hb ha, i64_eq ha hb]
  split
  · rfl
  · split <;> rfl
theorem xcmp_in (a b : Int) : inI (xcmp a b) := by
  unfold xcmp inI
  split
  · omega
  · split <;> omega
theorem xcmp_eq {a b : Int} : xcmp a b = 0 ↔ a = b := by
  unfold xcmp
  split
  · omega
  · split <;> omega
theorem xcmp_lt {a b : Int} : xcmp a b < 0 ↔ a < b := by
  unfold xcmp
  split
  · omega
  · split <;> omega
theorem xcmp_ge {a b : Int} : 0 ≤ xcmp a b ↔ b ≤ a := by
  unfold xcmp
  split
  · omega
  · split <;> omega
theorem xcmp_gt {a b : Int} : 0 < xcmp a b ↔ b < a := by
  unfold xcmp
  split
  · omega
  · split <;> omega
theorem xcmp_le {a b : Int} : xcmp a b ≤ 0 ↔ a ≤ b := by
  unfold xcmp
  split
  · omega
  · split <;> omega
end
section
/-! one law an instruction -/
def xclr (o : Option xV) : Option xV := match o with
  | some (.inr (.inl _)) => none
  | o => o
/-- an int or a reference into a local; a long -/
def xst1 : List (Option xV) → Nat → xV → List (Option xV)
  | [], _, _ => []
  | _ :: r, 0, v => some v :: r
  | o :: r, 1, v => xclr o :: xst1 r 0 v
  | o :: r, n + 2, v => o :: xst1 r (n + 1) v
def xst2 : List (Option xV) → Nat → xV → List (Option xV)
  | [], _, _ => []
  | [_], 0, _ => []
  | _ :: _ :: r, 0, v => some v :: none :: r
  | o :: r, 1, v => xclr o :: xst2 r 0 v
  | o :: r, n + 2, v => o :: xst2 r (n + 1) v
theorem xclr_some {o : Option xV} {w : xV} (h : xclr o = some w) : o = some w ∧ xcat w ≠ 2 := by
  rcases o with _ | n | n | c <;> simp [xclr] at h <;> subst h <;> simp [xcat]
theorem xst1_get : ∀ (ls : List (Option xV)) (i : Nat) (v : xV) (k : Nat) (w : xV), (xst1 ls i v)[k]? = some (some w) → (k = i ∧ w = v) ∨ (k ≠ i ∧ ls[k]? = some (some w) ∧ (k + 1 = i → xcat w ≠ 2)) := by
  intro ls
  induction ls with
  | nil => intro i v k w h; simp [xst1] at h
  | cons o r ih =>
    intro i v k w h
    match i with
    | 0 =>
      cases k with
      | zero => simp [xst1] at h; exact Or.inl ⟨rfl, h.symm⟩
      | succ k => simp [xst1] at h; exact Or.inr ⟨by omega, by simpa using h, by omega⟩
    | 1 =>
      cases k with
      | zero =>
        simp [xst1] at h
        have := xclr_some h
        exact Or.inr ⟨by omega, by simp [this.1], fun _ => this.2⟩
      | succ k =>
        simp [xst1] at h
        rcases ih 0 v k w h with ⟨h1, h2⟩ | ⟨h1, h2, h3⟩
        · exact Or.inl ⟨by omega, h2⟩
        · exact Or.inr ⟨by omega, by simpa using h2, by omega⟩
    | n + 2 =>
      cases k with
      | zero => simp [xst1] at h; exact Or.inr ⟨by omega, by simp [h], by omega⟩
      | succ k =>
        simp [xst1] at h
        rcases ih (n + 1) v k w h with ⟨h1, h2⟩ | ⟨h1, h2, h3⟩
        · exact Or.inl ⟨by omega, h2⟩
        · exact Or.inr ⟨by omega, by simpa using h2, fun h => h3 (by omega)⟩
theorem xst2_get : ∀ (ls : List (Option xV)) (i : Nat) (v : xV) (k : Nat) (w : xV), (xst2 ls i v)[k]? = some (some w) → (k = i ∧ w = v) ∨ (k ≠ i ∧ k ≠ i + 1 ∧ ls[k]? = some (some w) ∧ (k + 1 = i → xcat w ≠ 2)) := by
  intro ls
  induction ls with
  | nil => intro i v k w h; simp [xst2] at h
  | cons o r ih =>
    intro i v k w h
    match i with
    | 0 =>
      cases r with
      | nil => simp [xst2] at h
      | cons o2 r =>
        cases k with
        | zero => simp [xst2] at h; exact Or.inl ⟨rfl, h.symm⟩
        | succ k =>
          cases k with
          | zero => simp [xst2] at h
          | succ k => simp [xst2] at h; exact Or.inr ⟨by omega, by omega, by simpa using h, by omega⟩
    | 1 =>
      cases k with
      | zero =>
        simp [xst2] at h
        have := xclr_some h
        exact Or.inr ⟨by omega, by omega, by simp [this.1], fun _ => this.2⟩
      | succ k =>
        simp [xst2] at h
        rcases ih 0 v k w h with ⟨h1, h2⟩ | ⟨h1, h2, h3, h4⟩
        · exact Or.inl ⟨by omega, h2⟩
        · exact Or.inr ⟨by omega, by omega, by simpa using h3, by omega⟩
    | n + 2 =>
      cases k with
      | zero => simp [xst2] at h; exact Or.inr ⟨by omega, by omega, by simp [h], by omega⟩
      | succ k =>
        simp [xst2] at h
        rcases ih (n + 1) v k w h with ⟨h1, h2⟩ | ⟨h1, h2, h3, h4⟩
        · exact Or.inl ⟨by omega, h2⟩
        · exact Or.inr ⟨by omega, by omega, by simpa using h3, fun h => h4 (by omega)⟩
/-- what is known of the locals, as the kit lists it -/
def xal (ad : Nat → Nat) (ls : List (Option xV)) : List (Nat × Value) := (List.range ls.length).filterMap (fun k => (ls.getD k none).map (fun v => (k, xc ad v)))
theorem xal_mem {ad : Nat → Nat} {ls : List (Option xV)} {k : Nat} {v : xV} (h : ls[k]? = some (some v)) : (k, xc ad v) ∈ xal ad ls := by
  have h1 : k < ls.length := (List.getElem?_eq_some_iff.mp h).1
  refine List.mem_filterMap.mpr ⟨k, List.mem_range.mpr h1, ?_⟩
  simp [List.getD_eq_getElem?_getD, h]
theorem xal_has {ad : Nat → Nat} {lsA : Array Slot} {nL : Nat} {ls : List (Option xV)} (h : xLs ad lsA nL ls) : lv_has lsA nL (xal ad ls) := by
  refine ⟨h.1, h.2.1, fun q hq => ?_⟩
  obtain ⟨k, hk, he⟩ := List.mem_filterMap.mp hq
  cases hv : ls[k]? with
  | none => simp [List.getD_eq_getElem?_getD, hv] at he
  | some o =>
    cases o with
    | none => simp [List.getD_eq_getElem?_getD, hv] at he
    | some v =>
      simp [List.getD_eq_getElem?_getD, hv] at he
      rw [← he]
      exact h.2.2 k v hv
theorem xst1_has {ad : Nat → Nat} {ls' : Array Slot} {nL i : Nat} {ls : List (Option xV)} {v : xV} {lv : List (Nat × Value)} (hs : ∀ k w, ls[k]? = some (some w) → (k, xc ad w) ∈ lv) (h : lv_has ls' nL ((i, xc ad v) :: lv.filter (fun q => !(q.1 == i) && !(q.1 + 1 == i && q.2.category == 2)))) : xLs ad ls' nL (xst1 ls i v) := by
  refine ⟨h.1, h.2.1, fun k w hk => ?_⟩
  rcases xst1_get ls i v k w hk with ⟨rfl, rfl⟩ | ⟨h1, h2, h3⟩
  · exact h.2.2 (k, xc ad w) List.mem_cons_self
  · refine h.2.2 (k, xc ad w) (List.mem_cons_of_mem _ (List.mem_filter.mpr ⟨hs k w h2, ?_⟩))
    simp only [xcat_eq]
    by_cases h4 : k + 1 = i
    · simp [h1, h3 h4]
    · simp [h1, h4]
theorem xst2_has {ad : Nat → Nat} {ls' : Array Slot} {nL i : Nat} {ls : List (Option xV)} {v : xV} {lv : List (Nat × Value)} (hs : ∀ k w, ls[k]? = some (some w) → (k, xc ad w) ∈ lv) (h : lv_has ls' nL ((i, xc ad v) :: lv.filter (fun q => !(q.1 == i) && (!(q.1 == i + 1) && !(q.1 + 1 == i && q.2.category == 2))))) : xLs ad ls' nL (xst2 ls i v) := by
  refine ⟨h.1, h.2.1, fun k w hk => ?_⟩
  rcases xst2_get ls i v k w hk with ⟨rfl, rfl⟩ | ⟨h1, h0, h2, h3⟩
  · exact h.2.2 (k, xc ad w) List.mem_cons_self
  · refine h.2.2 (k, xc ad w) (List.mem_cons_of_mem _ (List.mem_filter.mpr ⟨hs k w h2, ?_⟩))
    simp only [xcat_eq]
    by_cases h4 : k + 1 = i
    · simp [h1, h0, h3 h4]
    · simp [h1, h0, h4]
section XR
variable {wd : List xE} {d : Nat} {mi : xM} {pc : Nat} {ls ls' : List (Option xV)} {st : List xV} {h : xH} {Q : Option xV → xH → Prop}
theorem x_iconst {n : Int} (hdg : decode mi.2.1 pc = .ok (.iconst n, 1)) (k : xG wd d mi (pc + 1) ls (.inl n :: st) h Q) : xG wd d mi pc ls st h Q := by
  intro p l e R s m args below meth cd D tc ad A H locs cells slots lsA hK hl hP hS hcs
  exact lv_iconst (v := Int32.ofInt n) hK.1 hK.2.1 hdg rfl (k p l e R s m args below meth cd D tc ad A H locs cells slots lsA hK hl hP hS hcs)
theorem x_bipush {n : Int} (hdg : decode mi.2.1 pc = .ok (.bipush n, 2)) (hv : (Int8.ofInt n).toInt32 = Int32.ofInt n) (k : xG wd d mi (pc + 2) ls (.inl n :: st) h Q) : xG wd d mi pc ls st h Q := by
  intro p l e R s m args below meth cd D tc ad A H locs cells slots lsA hK hl hP hS hcs
  exact lv_bipush (v := Int32.ofInt n) hK.1 hK.2.1 hdg hv (k p l e R s m args below meth cd D tc ad A H locs cells slots lsA hK hl hP hS hcs)
theorem x_sipush {n : Int} (hdg : decode mi.2.1 pc = .ok (.sipush n, 3)) (hv : (Int16.ofInt n).toInt32 = Int32.ofInt n) (k : xG wd d mi (pc + 3) ls (.inl n :: st) h Q) : xG wd d mi pc ls st h Q := by
  intro p l e R s m args below meth cd D tc ad A H locs cells slots lsA hK hl hP hS hcs
  exact lv_sipush (v := Int32.ofInt n) hK.1 hK.2.1 hdg hv (k p l e R s m args below meth cd D tc ad A H locs cells slots lsA hK hl hP hS hcs)
theorem x_lconst {n : Fin 2} {v : Int} (hdg : decode mi.2.1 pc = .ok (.lconst n, 1)) (hv : Int64.ofNat (n : Nat) = Int64.ofInt v) (k : xG wd d mi (pc + 1) ls (.inr (.inl v) :: st) h Q) : xG wd d mi pc ls st h Q := by
  intro p l e R s m args below meth cd D tc ad A H locs cells slots lsA hK hl hP hS hcs
  exact lv_lconst (v := Int64.ofInt v) hK.1 hK.2.1 hdg hv (k p l e R s m args below meth cd D tc ad A H locs cells slots lsA hK hl hP hS hcs)
theorem x_ldc {idx : Nat} {n : Int} {v : Int32} (hw : Cond.constant mi.1.cls idx v ∈ tblG) (hv : v = Int32.ofInt n) (hdg : decode mi.2.1 pc = .ok (.ldc idx, 2)) (k : xG wd d mi (pc + 2) ls (.inl n :: st) h Q) : xG wd d mi pc ls st h Q := by
  intro p l e R s m args below meth cd D tc ad A H locs cells slots lsA hK hl hP hS hcs
  subst hv
  exact lv_ldc hK.1 hK.2.1 hK.2.2.2.2.2.1 (hK.2.2.2.2.2.2.1 _ (List.mem_cons_of_mem _ hw)) hdg (k p l e R s m args below meth cd D tc ad A H locs cells slots lsA hK hl hP hS hcs)
theorem x_ldcw {idx : Nat} {n : Int} {v : Int32} (hw : Cond.constant mi.1.cls idx v ∈ tblG) (hv : v = Int32.ofInt n) (hdg : decode mi.2.1 pc = .ok (.ldc_w idx, 3)) (k : xG wd d mi (pc + 3) ls (.inl n :: st) h Q) : xG wd d mi pc ls st h Q := by
  intro p l e R s m args below meth cd D tc ad A H locs cells slots lsA hK hl hP hS hcs
  subst hv
  exact lv_ldcw hK.1 hK.2.1 hK.2.2.2.2.2.1 (hK.2.2.2.2.2.2.1 _ (List.mem_cons_of_mem _ hw)) hdg (k p l e R s m args below meth cd D tc ad A H locs cells slots lsA hK hl hP hS hcs)
theorem x_ldc2 {idx : Nat} {n : Int} {v : Int64} (hw : Cond.constantLong mi.1.cls idx v ∈ tblG) (hv : v = Int64.ofInt n) (hdg : decode mi.2.1 pc = .ok (.ldc2_w idx, 3)) (k : xG wd d mi (pc + 3) ls (.inr (.inl n) :: st) h Q) : xG wd d mi pc ls st h Q := by
  intro p l e R s m args below meth cd D tc ad A H locs cells slots lsA hK hl hP hS hcs
  subst hv
  exact lv_ldc2 hK.1 hK.2.1 hK.2.2.2.2.2.1 (hK.2.2.2.2.2.2.1 _ (List.mem_cons_of_mem _ hw)) hdg (k p l e R s m args below meth cd D tc ad A H locs cells slots lsA hK hl hP hS hcs)
theorem x_ldcS {idx i : Nat} (hi : i < 9) (hidx : xskk.getD i 0 = idx) (hc : mi.1.cls = "LacePins$Tape") (hdg : decode mi.2.1 pc = .ok (.ldc idx, 2)) (k : xG wd d mi (pc + 2) ls (.inr (.inr (1000 + i)) :: st) h Q) : xG wd d mi pc ls st h Q := by
  intro p l e R s m args below meth cd D tc ad A H locs cells slots lsA hK hl hP hS hcs
  subst hidx
  exact va_ldcS (own := "LacePins$Tape") hK.1 hK.2.1 (hc ▸ hK.2.2.2.2.2.1) (hK.2.2.2.2.2.2.2.2.2.2.2.2.2.2.2.2 i hi) hdg (k p l e R s m args below meth cd D tc ad A H locs cells slots lsA hK hl hP hS hcs)
theorem x_iload_n {q : Fin 4} {i : Nat} {a : Int} (hdg : decode mi.2.1 pc = .ok (.iload_n q, 1)) (hi : (q : Nat) = i) (hv : ls[i]? = some (some (.inl a))) (k : xG wd d mi (pc + 1) ls (.inl a :: st) h Q) : xG wd d mi pc ls st h Q := by
  intro p l e R s m args below meth cd D tc ad A H locs cells slots lsA hK hl hP hS hcs
  exact lv_iload_n hK.1 hK.2.1 hdg hi (hl.2.2 i _ hv) (k p l e R s m args below meth cd D tc ad A H locs cells slots lsA hK hl hP hS hcs)
theorem x_iload {i : Nat} {a : Int} (hdg : decode mi.2.1 pc = .ok (.iload i, 2)) (hv : ls[i]? = some (some (.inl a))) (k : xG wd d mi (pc + 2) ls (.inl a :: st) h Q) : xG wd d mi pc ls st h Q := by
  intro p l e R s m args below meth cd D tc ad A H locs cells slots lsA hK hl hP hS hcs
  exact lv_iload hK.1 hK.2.1 hdg (hl.2.2 i _ hv) (k p l e R s m args below meth cd D tc ad A H locs cells slots lsA hK hl hP hS hcs)
theorem x_istore_n {q : Fin 4} {i : Nat} {a : Int} (hdg : decode mi.2.1 pc = .ok (.istore_n q, 1)) (hi : (q : Nat) = i) (hn : i < mi.2.2.1) (hls : xst1 ls i (.inl a) = ls') (k : xG wd d mi (pc + 1) ls' st h Q) : xG wd d mi pc ls (.inl a :: st) h Q := by
  intro p l e R s m args below meth cd D tc ad A H locs cells slots lsA hK hl hP hS hcs
  subst hls
  exact lv_istore_n hK.1 hK.2.1 hdg hi (xal_has hl) hn rfl (fun lsB hB => k p l e R s m args below meth cd D tc ad A H locs cells slots lsB hK (xst1_has (v := .inl a) (fun _ _ => xal_mem) hB) hP hS hcs)
theorem x_istore {i : Nat} {a : Int} (hdg : decode mi.2.1 pc = .ok (.istore i, 2)) (hn : i < mi.2.2.1) (hls : xst1 ls i (.inl a) = ls') (k : xG wd d mi (pc + 2) ls' st h Q) : xG wd d mi pc ls (.inl a :: st) h Q := by
  intro p l e R s m args below meth cd D tc ad A H locs cells slots lsA hK hl hP hS hcs
  subst hls
  exact lv_istore hK.1 hK.2.1 hdg (xal_has hl) hn rfl (fun lsB hB => k p l e R s m args below meth cd D tc ad A H locs cells slots lsB hK (xst1_has (v := .inl a) (fun _ _ => xal_mem) hB) hP hS hcs)
theorem x_lload_n {q : Fin 4} {i : Nat} {a : Int} (hdg : decode mi.2.1 pc = .ok (.lload_n q, 1)) (hi : (q : Nat) = i) (hv : ls[i]? = some (some (.inr (.inl a)))) (k : xG wd d mi (pc + 1) ls (.inr (.inl a) :: st) h Q) : xG wd d mi pc ls st h Q := by
  intro p l e R s m args below meth cd D tc ad A H locs cells slots lsA hK hl hP hS hcs
  exact lv_lload_n hK.1 hK.2.1 hdg hi (hl.2.2 i _ hv) (k p l e R s m args below meth cd D tc ad A H locs cells slots lsA hK hl hP hS hcs)
theorem x_lload {i : Nat} {a : Int} (hdg : decode mi.2.1 pc = .ok (.lload i, 2)) (hv : ls[i]? = some (some (.inr (.inl a)))) (k : xG wd d mi (pc + 2) ls (.inr (.inl a) :: st) h Q) : xG wd d mi pc ls st h Q := by
  intro p l e R s m args below meth cd D tc ad A H locs cells slots lsA hK hl hP hS hcs
  exact lv_lload hK.1 hK.2.1 hdg (hl.2.2 i _ hv) (k p l e R s m args below meth cd D tc ad A H locs cells slots lsA hK hl hP hS hcs)
theorem x_lstore_n {q : Fin 4} {i : Nat} {a : Int} (hdg : decode mi.2.1 pc = .ok (.lstore_n q, 1)) (hi : (q : Nat) = i) (hn : i + 1 < mi.2.2.1) (hls : xst2 ls i (.inr (.inl a)) = ls') (k : xG wd d mi (pc + 1) ls' st h Q) : xG wd d mi pc ls (.inr (.inl a) :: st) h Q := by
  intro p l e R s m args below meth cd D tc ad A H locs cells slots lsA hK hl hP hS hcs
  subst hls
  exact lv_lstore_n hK.1 hK.2.1 hdg hi (xal_has hl) hn rfl (fun lsB hB => k p l e R s m args below meth cd D tc ad A H locs cells slots lsB hK (xst2_has (v := .inr (.inl a)) (fun _ _ => xal_mem) hB) hP hS hcs)
theorem x_lstore {i : Nat} {a : Int} (hdg : decode mi.2.1 pc = .ok (.lstore i, 2)) (hn : i + 1 < mi.2.2.1) (hls : xst2 ls i (.inr (.inl a)) = ls') (k : xG wd d mi (pc + 2) ls' st h Q) : xG wd d mi pc ls (.inr (.inl a) :: st) h Q := by
  intro p l e R s m args below meth cd D tc ad A H locs cells slots lsA hK hl hP hS hcs
  subst hls
  exact lv_lstore hK.1 hK.2.1 hdg (xal_has hl) hn rfl (fun lsB hB => k p l e R s m args below meth cd D tc ad A H locs cells slots lsB hK (xst2_has (v := .inr (.inl a)) (fun _ _ => xal_mem) hB) hP hS hcs)
theorem x_aload_n {q : Fin 4} {i : Nat} {a : Nat} (hdg : decode mi.2.1 pc = .ok (.aload_n q, 1)) (hi : (q : Nat) = i) (hv : ls[i]? = some (some (.inr (.inr a)))) (k : xG wd d mi (pc + 1) ls (.inr (.inr a) :: st) h Q) : xG wd d mi pc ls st h Q := by
  intro p l e R s m args below meth cd D tc ad A H locs cells slots lsA hK hl hP hS hcs
  exact lv_aload_n hK.1 hK.2.1 hdg hi (hl.2.2 i _ hv) (k p l e R s m args below meth cd D tc ad A H locs cells slots lsA hK hl hP hS hcs)
theorem x_aload {i : Nat} {a : Nat} (hdg : decode mi.2.1 pc = .ok (.aload i, 2)) (hv : ls[i]? = some (some (.inr (.inr a)))) (k : xG wd d mi (pc + 2) ls (.inr (.inr a) :: st) h Q) : xG wd d mi pc ls st h Q := by
  intro p l e R s m args below meth cd D tc ad A H locs cells slots lsA hK hl hP hS hcs
  exact lv_aload hK.1 hK.2.1 hdg (hl.2.2 i _ hv) (k p l e R s m args below meth cd D tc ad A H locs cells slots lsA hK hl hP hS hcs)
theorem x_astore_n {q : Fin 4} {i : Nat} {a : Nat} (hdg : decode mi.2.1 pc = .ok (.astore_n q, 1)) (hi : (q : Nat) = i) (hn : i < mi.2.2.1) (hls : xst1 ls i (.inr (.inr a)) = ls') (k : xG wd d mi (pc + 1) ls' st h Q) : xG wd d mi pc ls (.inr (.inr a) :: st) h Q := by
  intro p l e R s m args below meth cd D tc ad A H locs cells slots lsA hK hl hP hS hcs
  subst hls
  exact lv_astore_n hK.1 hK.2.1 hdg hi (xal_has hl) hn rfl (fun lsB hB => k p l e R s m args below meth cd D tc ad A H locs cells slots lsB hK (xst1_has (v := .inr (.inr a)) (fun _ _ => xal_mem) hB) hP hS hcs)
theorem x_astore {i : Nat} {a : Nat} (hdg : decode mi.2.1 pc = .ok (.astore i, 2)) (hn : i < mi.2.2.1) (hls : xst1 ls i (.inr (.inr a)) = ls') (k : xG wd d mi (pc + 2) ls' st h Q) : xG wd d mi pc ls (.inr (.inr a) :: st) h Q := by
  intro p l e R s m args below meth cd D tc ad A H locs cells slots lsA hK hl hP hS hcs
  subst hls
  exact lv_astore hK.1 hK.2.1 hdg (xal_has hl) hn rfl (fun lsB hB => k p l e R s m args below meth cd D tc ad A H locs cells slots lsB hK (xst1_has (v := .inr (.inr a)) (fun _ _ => xal_mem) hB) hP hS hcs)
theorem x_iinc {i : Nat} {n a : Int} (hdg : decode mi.2.1 pc = .ok (.iinc i n, 3)) (hn : i < mi.2.2.1) (hv : ls[i]? = some (some (.inl a))) (hls : xst1 ls i (.inl (a + n)) = ls') (k : xG wd d mi (pc + 3) ls' st h Q) : xG wd d mi pc ls st h Q := by
  intro p l e R s m args below meth cd D tc ad A H locs cells slots lsA hK hl hP hS hcs
  subst hls
  have hB0 := xal_has hl
  have h0 : lv_has lsA mi.2.2.1 ((i, .int (Int32.ofInt a)) :: xal ad ls) := ⟨hB0.1, hB0.2.1, fun q hq => by rcases List.mem_cons.mp hq with rfl | hq; exact hl.2.2 i _ hv; exact hB0.2.2 q hq⟩
  exact lv_iinc (k := 0) (x := Int32.ofInt a) (v := Int32.ofInt (a + n)) hK.1 hK.2.1 hdg h0 rfl (Int32.ofInt_add a n).symm hn rfl (fun lsB hB => k p l e R s m args below meth cd D tc ad A H locs cells slots lsB hK (xst1_has (v := .inl (a + n)) (fun _ _ hq => List.mem_cons_of_mem _ (xal_mem hq)) hB) hP hS hcs)
theorem x_iadd {a b : Int} (hdg : decode mi.2.1 pc = .ok (.iadd, 1)) (k : xG wd d mi (pc + 1) ls (.inl (a + b) :: st) h Q) : xG wd d mi pc ls (.inl b :: .inl a :: st) h Q := by
  intro p l e R s m args below meth cd D tc ad A H locs cells slots lsA hK hl hP hS hcs
  have kk := k p l e R s m args below meth cd D tc ad A H locs cells slots lsA hK hl hP hS hcs
  refine lv_iadd hK.1 hK.2.1 hdg ?_
  rw [← show Int32.ofInt (a + b) = _ from Int32.ofInt_add a b]
  exact kk
theorem x_isub {a b : Int} (hdg : decode mi.2.1 pc = .ok (.isub, 1)) (k : xG wd d mi (pc + 1) ls (.inl (a - b) :: st) h Q) : xG wd d mi pc ls (.inl b :: .inl a :: st) h Q := by
  intro p l e R s m args below meth cd D tc ad A H locs cells slots lsA hK hl hP hS hcs
  have kk := k p l e R s m args below meth cd D tc ad A H locs cells slots lsA hK hl hP hS hcs
  refine lv_isub hK.1 hK.2.1 hdg ?_
  rw [← show Int32.ofInt (a - b) = _ from Int32.ofInt_sub a b]
  exact kk
theorem x_imul {a b : Int} (hdg : decode mi.2.1 pc = .ok (.imul, 1)) (k : xG wd d mi (pc + 1) ls (.inl (a * b) :: st) h Q) : xG wd d mi pc ls (.inl b :: .inl a :: st) h Q := by
  intro p l e R s m args below meth cd D tc ad A H locs cells slots lsA hK hl hP hS hcs
  have kk := k p l e R s m args below meth cd D tc ad A H locs cells slots lsA hK hl hP hS hcs
  refine lv_imul hK.1 hK.2.1 hdg ?_
  rw [← show Int32.ofInt (a * b) = _ from Int32.ofInt_mul a b]
  exact kk
theorem x_iand {a b : Int} (hdg : decode mi.2.1 pc = .ok (.iand, 1)) (k : xG wd d mi (pc + 1) ls (.inl (xandI a b) :: st) h Q) : xG wd d mi pc ls (.inl b :: .inl a :: st) h Q := by
  intro p l e R s m args below meth cd D tc ad A H locs cells slots lsA hK hl hP hS hcs
  have kk := k p l e R s m args below meth cd D tc ad A H locs cells slots lsA hK hl hP hS hcs
  refine lv_iand hK.1 hK.2.1 hdg ?_
  rw [← show Int32.ofInt (xandI a b) = _ from (i32_and a b).symm]
  exact kk
theorem x_ior {a b : Int} (hdg : decode mi.2.1 pc = .ok (.ior, 1)) (k : xG wd d mi (pc + 1) ls (.inl (xorI a b) :: st) h Q) : xG wd d mi pc ls (.inl b :: .inl a :: st) h Q := by
  intro p l e R s m args below meth cd D tc ad A H locs cells slots lsA hK hl hP hS hcs
  have kk := k p l e R s m args below meth cd D tc ad A H locs cells slots lsA hK hl hP hS hcs
  refine lv_ior hK.1 hK.2.1 hdg ?_
  rw [← show Int32.ofInt (xorI a b) = _ from (i32_or a b).symm]
  exact kk
theorem x_ixor {a b : Int} (hdg : decode mi.2.1 pc = .ok (.ixor, 1)) (k : xG wd d mi (pc + 1) ls (.inl (xxorI a b) :: st) h Q) : xG wd d mi pc ls (.inl b :: .inl a :: st) h Q := by
  intro p l e R s m args below meth cd D tc ad A H locs cells slots lsA hK hl hP hS hcs
  have kk := k p l e R s m args below meth cd D tc ad A H locs cells slots lsA hK hl hP hS hcs
  refine lv_ixor hK.1 hK.2.1 hdg ?_
  rw [← show Int32.ofInt (xxorI a b) = _ from (i32_xor a b).symm]
  exact kk
theorem x_ladd {a b : Int} (hdg : decode mi.2.1 pc = .ok (.ladd, 1)) (k : xG wd d mi (pc + 1) ls (.inr (.inl (a + b)) :: st) h Q) : xG wd d mi pc ls (.inr (.inl b) :: .inr (.inl a) :: st) h Q := by
  intro p l e R s m args below meth cd D tc ad A H locs cells slots lsA hK hl hP hS hcs
  have kk := k p l e R s m args below meth cd D tc ad A H locs cells slots lsA hK hl hP hS hcs
  refine lv_ladd hK.1 hK.2.1 hdg ?_
  rw [← show Int64.ofInt (a + b) = _ from Int64.ofInt_add a b]
  exact kk
theorem x_lsub {a b : Int} (hdg : decode mi.2.1 pc = .ok (.lsub, 1)) (k : xG wd d mi (pc + 1) ls (.inr (.inl (a - b)) :: st) h Q) : xG wd d mi pc ls (.inr (.inl b) :: .inr (.inl a) :: st) h Q := by
  intro p l e R s m args below meth cd D tc ad A H locs cells slots lsA hK hl hP hS hcs
  have kk := k p l e R s m args below meth cd D tc ad A H locs cells slots lsA hK hl hP hS hcs
  refine lv_lsub hK.1 hK.2.1 hdg ?_
  rw [← show Int64.ofInt (a - b) = _ from Int64.ofInt_sub a b]
  exact kk
theorem x_land {a b : Int} (hdg : decode mi.2.1 pc = .ok (.land, 1)) (k : xG wd d mi (pc + 1) ls (.inr (.inl (xandL a b)) :: st) h Q) : xG wd d mi pc ls (.inr (.inl b) :: .inr (.inl a) :: st) h Q := by
  intro p l e R s m args below meth cd D tc ad A H locs cells slots lsA hK hl hP hS hcs
  have kk := k p l e R s m args below meth cd D tc ad A H locs cells slots lsA hK hl hP hS hcs
  refine lv_land hK.1 hK.2.1 hdg ?_
  rw [← show Int64.ofInt (xandL a b) = _ from (i64_and a b).symm]
  exact kk
theorem x_lor {a b : Int} (hdg : decode mi.2.1 pc = .ok (.lor, 1)) (k : xG wd d mi (pc + 1) ls (.inr (.inl (xorL a b)) :: st) h Q) : xG wd d mi pc ls (.inr (.inl b) :: .inr (.inl a) :: st) h Q := by
  intro p l e R s m args below meth cd D tc ad A H locs cells slots lsA hK hl hP hS hcs
  have kk := k p l e R s m args below meth cd D tc ad A H locs cells slots lsA hK hl hP hS hcs
  refine lv_lor hK.1 hK.2.1 hdg ?_
  rw [← show Int64.ofInt (xorL a b) = _ from (i64_or a b).symm]
  exact kk
theorem x_lxor {a b : Int} (hdg : decode mi.2.1 pc = .ok (.lxor, 1)) (k : xG wd d mi (pc + 1) ls (.inr (.inl (xxorL a b)) :: st) h Q) : xG wd d mi pc ls (.inr (.inl b) :: .inr (.inl a) :: st) h Q := by
  intro p l e R s m args below meth cd D tc ad A H locs cells slots lsA hK hl hP hS hcs
  have kk := k p l e R s m args below meth cd D tc ad A H locs cells slots lsA hK hl hP hS hcs
  refine lv_lxor hK.1 hK.2.1 hdg ?_
  rw [← show Int64.ofInt (xxorL a b) = _ from (i64_xor a b).symm]
  exact kk
theorem x_ineg {a : Int} (hdg : decode mi.2.1 pc = .ok (.ineg, 1)) (k : xG wd d mi (pc + 1) ls (.inl (-a) :: st) h Q) : xG wd d mi pc ls (.inl a :: st) h Q := by
  intro p l e R s m args below meth cd D tc ad A H locs cells slots lsA hK hl hP hS hcs
  have kk := k p l e R s m args below meth cd D tc ad A H locs cells slots lsA hK hl hP hS hcs
  refine lv_ineg hK.1 hK.2.1 hdg ?_
  rw [← Int32.ofInt_neg]
  exact kk
theorem x_ishl {a b : Int} (hdg : decode mi.2.1 pc = .ok (.ishl, 1)) (hg : 0 ≤ b ∧ b ≤ 31) (k : xG wd d mi (pc + 1) ls (.inl (a * 2 ^ b.toNat) :: st) h Q) : xG wd d mi pc ls (.inl b :: .inl a :: st) h Q := by
  intro p l e R s m args below meth cd D tc ad A H locs cells slots lsA hK hl hP hS hcs
  have kk := k p l e R s m args below meth cd D tc ad A H locs cells slots lsA hK hl hP hS hcs
  refine lv_ishl hK.1 hK.2.1 hdg ?_
  rw [i32_shl a hg.1 hg.2]
  exact kk
theorem x_ishr {a b : Int} (hdg : decode mi.2.1 pc = .ok (.ishr, 1)) (hg : inI a ∧ 0 ≤ b ∧ b ≤ 31) (k : xG wd d mi (pc + 1) ls (.inl (a / 2 ^ b.toNat) :: st) h Q) : xG wd d mi pc ls (.inl b :: .inl a :: st) h Q := by
  intro p l e R s m args below meth cd D tc ad A H locs cells slots lsA hK hl hP hS hcs
  have kk := k p l e R s m args below meth cd D tc ad A H locs cells slots lsA hK hl hP hS hcs
  refine lv_ishr hK.1 hK.2.1 hdg ?_
  rw [i32_shr hg.1 hg.2.1 hg.2.2]
  exact kk
theorem x_iushr {a b : Int} (hdg : decode mi.2.1 pc = .ok (.iushr, 1)) (hg : (0 ≤ a ∧ inI a) ∧ 0 ≤ b ∧ b ≤ 31) (k : xG wd d mi (pc + 1) ls (.inl (a / 2 ^ b.toNat) :: st) h Q) : xG wd d mi pc ls (.inl b :: .inl a :: st) h Q := by
  intro p l e R s m args below meth cd D tc ad A H locs cells slots lsA hK hl hP hS hcs
  have kk := k p l e R s m args below meth cd D tc ad A H locs cells slots lsA hK hl hP hS hcs
  exact lv_iushr hK.1 hK.2.1 hdg (i32_ushr hg.1.1 hg.1.2 hg.2.1 hg.2.2) kk
theorem x_lshl {a b : Int} (hdg : decode mi.2.1 pc = .ok (.lshl, 1)) (hg : 0 ≤ b ∧ b ≤ 63) (k : xG wd d mi (pc + 1) ls (.inr (.inl (a * 2 ^ b.toNat)) :: st) h Q) : xG wd d mi pc ls (.inl b :: .inr (.inl a) :: st) h Q := by
  intro p l e R s m args below meth cd D tc ad A H locs cells slots lsA hK hl hP hS hcs
  have kk := k p l e R s m args below meth cd D tc ad A H locs cells slots lsA hK hl hP hS hcs
  exact lv_lshl hK.1 hK.2.1 hdg (i64_shl a hg.1 hg.2) kk
theorem x_lshr {a b : Int} (hdg : decode mi.2.1 pc = .ok (.lshr, 1)) (hg : inL a ∧ 0 ≤ b ∧ b ≤ 63) (k : xG wd d mi (pc + 1) ls (.inr (.inl (a / 2 ^ b.toNat)) :: st) h Q) : xG wd d mi pc ls (.inl b :: .inr (.inl a) :: st) h Q := by
  intro p l e R s m args below meth cd D tc ad A H locs cells slots lsA hK hl hP hS hcs
  have kk := k p l e R s m args below meth cd D tc ad A H locs cells slots lsA hK hl hP hS hcs
  exact lv_lshr hK.1 hK.2.1 hdg (i64_shr hg.1 hg.2.1 hg.2.2) kk
theorem x_idiv {a b : Int} (hdg : decode mi.2.1 pc = .ok (.idiv, 1)) (hg : (0 ≤ a ∧ inI a) ∧ 0 < b ∧ inI b) (k : xG wd d mi (pc + 1) ls (.inl (a / b) :: st) h Q) : xG wd d mi pc ls (.inl b :: .inl a :: st) h Q := by
  intro p l e R s m args below meth cd D tc ad A H locs cells slots lsA hK hl hP hS hcs
  have kk := k p l e R s m args below meth cd D tc ad A H locs cells slots lsA hK hl hP hS hcs
  refine lv_idiv hK.1 hK.2.1 hdg (i32_ne0 hg.2.1 hg.2.2) ?_
  rw [i32_div hg.1.1 hg.1.2 hg.2.1 hg.2.2]
  exact kk
theorem x_irem {a b : Int} (hdg : decode mi.2.1 pc = .ok (.irem, 1)) (hg : (0 ≤ a ∧ inI a) ∧ 0 < b ∧ inI b) (k : xG wd d mi (pc + 1) ls (.inl (a % b) :: st) h Q) : xG wd d mi pc ls (.inl b :: .inl a :: st) h Q := by
  intro p l e R s m args below meth cd D tc ad A H locs cells slots lsA hK hl hP hS hcs
  have kk := k p l e R s m args below meth cd D tc ad A H locs cells slots lsA hK hl hP hS hcs
  refine lv_irem hK.1 hK.2.1 hdg (i32_ne0 hg.2.1 hg.2.2) ?_
  rw [i32_rem hg.1.1 hg.1.2 hg.2.1 hg.2.2]
  exact kk
theorem x_i2l {a : Int} (hdg : decode mi.2.1 pc = .ok (.i2l, 1)) (hg : inI a) (k : xG wd d mi (pc + 1) ls (.inr (.inl a) :: st) h Q) : xG wd d mi pc ls (.inl a :: st) h Q := by
  intro p l e R s m args below meth cd D tc ad A H locs cells slots lsA hK hl hP hS hcs
  exact lv_i2l hK.1 hK.2.1 hdg (i32_l hg) (k p l e R s m args below meth cd D tc ad A H locs cells slots lsA hK hl hP hS hcs)
theorem x_lcmp {a b : Int} (hdg : decode mi.2.1 pc = .ok (.lcmp, 1)) (hg : inL a ∧ inL b) (k : xG wd d mi (pc + 1) ls (.inl (xcmp a b) :: st) h Q) : xG wd d mi pc ls (.inr (.inl b) :: .inr (.inl a) :: st) h Q := by
  intro p l e R s m args below meth cd D tc ad A H locs cells slots lsA hK hl hP hS hcs
  have kk := k p l e R s m args below meth cd D tc ad A H locs cells slots lsA hK hl hP hS hcs
  refine W.lcmp hK.1 hK.2.1 hdg ?_
  rw [i64_cmp hg.1 hg.2]
  exact kk
theorem x_dup {v : xV} (hdg : decode mi.2.1 pc = .ok (.dup, 1)) (hv : xcat v = 1) (k : xG wd d mi (pc + 1) ls (v :: v :: st) h Q) : xG wd d mi pc ls (v :: st) h Q := by
  intro p l e R s m args below meth cd D tc ad A H locs cells slots lsA hK hl hP hS hcs
  exact lv_dup hK.1 hK.2.1 hdg (by rw [xcat_eq]; exact hv) (k p l e R s m args below meth cd D tc ad A H locs cells slots lsA hK hl hP hS hcs)
theorem x_dup2 {v u : xV} (hdg : decode mi.2.1 pc = .ok (.dup2, 1)) (hv : xcat v = 1) (hu : xcat u = 1) (k : xG wd d mi (pc + 1) ls (v :: u :: v :: u :: st) h Q) : xG wd d mi pc ls (v :: u :: st) h Q := by
  intro p l e R s m args below meth cd D tc ad A H locs cells slots lsA hK hl hP hS hcs
  exact lv_dup2_11 hK.1 hK.2.1 hdg (by rw [xcat_eq]; exact hv) (by rw [xcat_eq]; exact hu) (k p l e R s m args below meth cd D tc ad A H locs cells slots lsA hK hl hP hS hcs)
theorem x_pop {v : xV} (hdg : decode mi.2.1 pc = .ok (.pop, 1)) (hv : xcat v = 1) (k : xG wd d mi (pc + 1) ls st h Q) : xG wd d mi pc ls (v :: st) h Q := by
  intro p l e R s m args below meth cd D tc ad A H locs cells slots lsA hK hl hP hS hcs
  exact lv_pop hK.1 hK.2.1 hdg (by rw [xcat_eq]; exact hv) (k p l e R s m args below meth cd D tc ad A H locs cells slots lsA hK hl hP hS hcs)
theorem x_goto {off : Int} {tgt : Nat} (hdg : decode mi.2.1 pc = .ok (.goto off, 3)) (ht : (pc : Int) + off = (tgt : Int)) (k : xG wd d mi tgt ls st h Q) : xG wd d mi pc ls st h Q := by
  intro p l e R s m args below meth cd D tc ad A H locs cells slots lsA hK hl hP hS hcs
  exact lv_goto hK.1 hK.2.1 hdg ht (k p l e R s m args below meth cd D tc ad A H locs cells slots lsA hK hl hP hS hcs)
theorem x_icmp_eq {a b : Int} {off : Int} {tgt : Nat} (hdg : decode mi.2.1 pc = .ok (.if_icmp .eq off, 3)) (ht : (pc : Int) + off = (tgt : Int)) (hg : inI a ∧ inI b) (kt : a = b → xG wd d mi tgt ls st h Q) (kf : ¬ a = b → xG wd d mi (pc + 3) ls st h Q) : xG wd d mi pc ls (.inl b :: .inl a :: st) h Q := by
  intro p l e R s m args below meth cd D tc ad A H locs cells slots lsA hK hl hP hS hcs
  exact lv_icmp_eq hK.1 hK.2.1 hdg ht (fun hc => kt ((i32_eq hg.1 hg.2).mp hc) p l e R s m args below meth cd D tc ad A H locs cells slots lsA hK hl hP hS hcs) (fun hc => kf (fun z => hc ((i32_eq hg.1 hg.2).mpr z)) p l e R s m args below meth cd D tc ad A H locs cells slots lsA hK hl hP hS hcs)
theorem x_if_eq {a : Int} {off : Int} {tgt : Nat} (hdg : decode mi.2.1 pc = .ok (.ifCond .eq off, 3)) (ht : (pc : Int) + off = (tgt : Int)) (hg : inI a) (kt : a = 0 → xG wd d mi tgt ls st h Q) (kf : ¬ a = 0 → xG wd d mi (pc + 3) ls st h Q) : xG wd d mi pc ls (.inl a :: st) h Q := by
  intro p l e R s m args below meth cd D tc ad A H locs cells slots lsA hK hl hP hS hcs
  exact lv_if_eq hK.1 hK.2.1 hdg ht (fun hc => kt ((i32_eq hg inI_0).mp hc) p l e R s m args below meth cd D tc ad A H locs cells slots lsA hK hl hP hS hcs) (fun hc => kf (fun z => hc ((i32_eq hg inI_0).mpr z)) p l e R s m args below meth cd D tc ad A H locs cells slots lsA hK hl hP hS hcs)
theorem x_icmp_ne {a b : Int} {off : Int} {tgt : Nat} (hdg : decode mi.2.1 pc = .ok (.if_icmp .ne off, 3)) (ht : (pc : Int) + off = (tgt : Int)) (hg : inI a ∧ inI b) (kt : ¬ a = b → xG wd d mi tgt ls st h Q) (kf : a = b → xG wd d mi (pc + 3) ls st h Q) : xG wd d mi pc ls (.inl b :: .inl a :: st) h Q := by
  intro p l e R s m args below meth cd D tc ad A H locs cells slots lsA hK hl hP hS hcs
  exact lv_icmp_ne hK.1 hK.2.1 hdg ht (fun hc => kt (fun z => hc ((i32_eq hg.1 hg.2).mpr z)) p l e R s m args below meth cd D tc ad A H locs cells slots lsA hK hl hP hS hcs) (fun hc => kf ((i32_eq hg.1 hg.2).mp hc) p l e R s m args below meth cd D tc ad A H locs cells slots lsA hK hl hP hS hcs)
theorem x_if_ne {a : Int} {off : Int} {tgt : Nat} (hdg : decode mi.2.1 pc = .ok (.ifCond .ne off, 3)) (ht : (pc : Int) + off = (tgt : Int)) (hg : inI a) (kt : ¬ a = 0 → xG wd d mi tgt ls st h Q) (kf : a = 0 → xG wd d mi (pc + 3) ls st h Q) : xG wd d mi pc ls (.inl a :: st) h Q := by
  intro p l e R s m args below meth cd D tc ad A H locs cells slots lsA hK hl hP hS hcs
  exact lv_if_ne hK.1 hK.2.1 hdg ht (fun hc => kt (fun z => hc ((i32_eq hg inI_0).mpr z)) p l e R s m args below meth cd D tc ad A H locs cells slots lsA hK hl hP hS hcs) (fun hc => kf ((i32_eq hg inI_0).mp hc) p l e R s m args below meth cd D tc ad A H locs cells slots lsA hK hl hP hS hcs)
theorem x_icmp_lt {a b : Int} {off : Int} {tgt : Nat} (hdg : decode mi.2.1 pc = .ok (.if_icmp .lt off, 3)) (ht : (pc : Int) + off = (tgt : Int)) (hg : inI a ∧ inI b) (kt : a < b → xG wd d mi tgt ls st h Q) (kf : b ≤ a → xG wd d mi (pc + 3) ls st h Q) : xG wd d mi pc ls (.inl b :: .inl a :: st) h Q := by
  intro p l e R s m args below meth cd D tc ad A H locs cells slots lsA hK hl hP hS hcs
  exact lv_icmp_lt hK.1 hK.2.1 hdg ht (fun hc => kt ((i32_lt hg.1 hg.2).mp hc) p l e R s m args below meth cd D tc ad A H locs cells slots lsA hK hl hP hS hcs) (fun hc => kf (Int.not_lt.mp (fun z => hc ((i32_lt hg.1 hg.2).mpr z))) p l e R s m args below meth cd D tc ad A H locs cells slots lsA hK hl hP hS hcs)
theorem x_if_lt {a : Int} {off : Int} {tgt : Nat} (hdg : decode mi.2.1 pc = .ok (.ifCond .lt off, 3)) (ht : (pc : Int) + off = (tgt : Int)) (hg : inI a) (kt : a < 0 → xG wd d mi tgt ls st h Q) (kf : 0 ≤ a → xG wd d mi (pc + 3) ls st h Q) : xG wd d mi pc ls (.inl a :: st) h Q := by
  intro p l e R s m args below meth cd D tc ad A H locs cells slots lsA hK hl hP hS hcs
  exact lv_if_lt hK.1 hK.2.1 hdg ht (fun hc => kt ((i32_lt hg inI_0).mp hc) p l e R s m args below meth cd D tc ad A H locs cells slots lsA hK hl hP hS hcs) (fun hc => kf (Int.not_lt.mp (fun z => hc ((i32_lt hg inI_0).mpr z))) p l e R s m args below meth cd D tc ad A H locs cells slots lsA hK hl hP hS hcs)
theorem x_icmp_ge {a b : Int} {off : Int} {tgt : Nat} (hdg : decode mi.2.1 pc = .ok (.if_icmp .ge off, 3)) (ht : (pc : Int) + off = (tgt : Int)) (hg : inI a ∧ inI b) (kt : b ≤ a → xG wd d mi tgt ls st h Q) (kf : a < b → xG wd d mi (pc + 3) ls st h Q) : xG wd d mi pc ls (.inl b :: .inl a :: st) h Q := by
  intro p l e R s m args below meth cd D tc ad A H locs cells slots lsA hK hl hP hS hcs
  exact lv_icmp_ge hK.1 hK.2.1 hdg ht (fun hc => kt ((i32_le hg.2 hg.1).mp hc) p l e R s m args below meth cd D tc ad A H locs cells slots lsA hK hl hP hS hcs) (fun hc => kf (Int.not_le.mp (fun z => hc ((i32_le hg.2 hg.1).mpr z))) p l e R s m args below meth cd D tc ad A H locs cells slots lsA hK hl hP hS hcs)
theorem x_if_ge {a : Int} {off : Int} {tgt : Nat} (hdg : decode mi.2.1 pc = .ok (.ifCond .ge off, 3)) (ht : (pc : Int) + off = (tgt : Int)) (hg : inI a) (kt : 0 ≤ a → xG wd d mi tgt ls st h Q) (kf : a < 0 → xG wd d mi (pc + 3) ls st h Q) : xG wd d mi pc ls (.inl a :: st) h Q := by
  intro p l e R s m args below meth cd D tc ad A H locs cells slots lsA hK hl hP hS hcs
  exact lv_if_ge hK.1 hK.2.1 hdg ht (fun hc => kt ((i32_le inI_0 hg).mp hc) p l e R s m args below meth cd D tc ad A H locs cells slots lsA hK hl hP hS hcs) (fun hc => kf (Int.not_le.mp (fun z => hc ((i32_le inI_0 hg).mpr z))) p l e R s m args below meth cd D tc ad A H locs cells slots lsA hK hl hP hS hcs)
theorem x_icmp_gt {a b : Int} {off : Int} {tgt : Nat} (hdg : decode mi.2.1 pc = .ok (.if_icmp .gt off, 3)) (ht : (pc : Int) + off = (tgt : Int)) (hg : inI a ∧ inI b) (kt : b < a → xG wd d mi tgt ls st h Q) (kf : a ≤ b → xG wd d mi (pc + 3) ls st h Q) : xG wd d mi pc ls (.inl b :: .inl a :: st) h Q := by
  intro p l e R s m args below meth cd D tc ad A H locs cells slots lsA hK hl hP hS hcs
  exact lv_icmp_gt hK.1 hK.2.1 hdg ht (fun hc => kt ((i32_lt hg.2 hg.1).mp hc) p l e R s m args below meth cd D tc ad A H locs cells slots lsA hK hl hP hS hcs) (fun hc => kf (Int.not_lt.mp (fun z => hc ((i32_lt hg.2 hg.1).mpr z))) p l e R s m args below meth cd D tc ad A H locs cells slots lsA hK hl hP hS hcs)
theorem x_if_gt {a : Int} {off : Int} {tgt : Nat} (hdg : decode mi.2.1 pc = .ok (.ifCond .gt off, 3)) (ht : (pc : Int) + off = (tgt : Int)) (hg : inI a) (kt : 0 < a → xG wd d mi tgt ls st h Q) (kf : a ≤ 0 → xG wd d mi (pc + 3) ls st h Q) : xG wd d mi pc ls (.inl a :: st) h Q := by
  intro p l e R s m args below meth cd D tc ad A H locs cells slots lsA hK hl hP hS hcs
  exact lv_if_gt hK.1 hK.2.1 hdg ht (fun hc => kt ((i32_lt inI_0 hg).mp hc) p l e R s m args below meth cd D tc ad A H locs cells slots lsA hK hl hP hS hcs) (fun hc => kf (Int.not_lt.mp (fun z => hc ((i32_lt inI_0 hg).mpr z))) p l e R s m args below meth cd D tc ad A H locs cells slots lsA hK hl hP hS hcs)
theorem x_icmp_le {a b : Int} {off : Int} {tgt : Nat} (hdg : decode mi.2.1 pc = .ok (.if_icmp .le off, 3)) (ht : (pc : Int) + off = (tgt : Int)) (hg : inI a ∧ inI b) (kt : a ≤ b → xG wd d mi tgt ls st h Q) (kf : b < a → xG wd d mi (pc + 3) ls st h Q) : xG wd d mi pc ls (.inl b :: .inl a :: st) h Q := by
  intro p l e R s m args below meth cd D tc ad A H locs cells slots lsA hK hl hP hS hcs
  exact lv_icmp_le hK.1 hK.2.1 hdg ht (fun hc => kt ((i32_le hg.1 hg.2).mp hc) p l e R s m args below meth cd D tc ad A H locs cells slots lsA hK hl hP hS hcs) (fun hc => kf (Int.not_le.mp (fun z => hc ((i32_le hg.1 hg.2).mpr z))) p l e R s m args below meth cd D tc ad A H locs cells slots lsA hK hl hP hS hcs)
theorem x_if_le {a : Int} {off : Int} {tgt : Nat} (hdg : decode mi.2.1 pc = .ok (.ifCond .le off, 3)) (ht : (pc : Int) + off = (tgt : Int)) (hg : inI a) (kt : a ≤ 0 → xG wd d mi tgt ls st h Q) (kf : 0 < a → xG wd d mi (pc + 3) ls st h Q) : xG wd d mi pc ls (.inl a :: st) h Q := by
  intro p l e R s m args below meth cd D tc ad A H locs cells slots lsA hK hl hP hS hcs
  exact lv_if_le hK.1 hK.2.1 hdg ht (fun hc => kt ((i32_le hg inI_0).mp hc) p l e R s m args below meth cd D tc ad A H locs cells slots lsA hK hl hP hS hcs) (fun hc => kf (Int.not_le.mp (fun z => hc ((i32_le hg inI_0).mpr z))) p l e R s m args below meth cd D tc ad A H locs cells slots lsA hK hl hP hS hcs)
theorem x_tswOut {a dflt lo hi : Int} {offs : Array Int} {len tgt : Nat} (hdg : decode mi.2.1 pc = .ok (.tableswitch dflt lo hi offs, len)) (hg : inI a) (hx : a < lo ∨ hi < a) (ht : (pc : Int) + dflt = (tgt : Int)) (k : xG wd d mi tgt ls st h Q) : xG wd d mi pc ls (.inl a :: st) h Q := by
  intro p l e R s m args below meth cd D tc ad A H locs cells slots lsA hK hl hP hS hcs
  exact lv_tableOut hK.1 hK.2.1 hdg (by rw [i32_toInt hg]; exact hx) ht (k p l e R s m args below meth cd D tc ad A H locs cells slots lsA hK hl hP hS hcs)
theorem x_tswAt {a dflt lo hi off : Int} {offs : Array Int} {len tgt n : Nat} (hdg : decode mi.2.1 pc = .ok (.tableswitch dflt lo hi offs, len)) (hg : inI a) (ha : a = lo + n) (hh : lo + n ≤ hi) (ho : offs[n]? = some off) (ht : (pc : Int) + off = (tgt : Int)) (k : xG wd d mi tgt ls st h Q) : xG wd d mi pc ls (.inl a :: st) h Q := by
  intro p l e R s m args below meth cd D tc ad A H locs cells slots lsA hK hl hP hS hcs
  have eI : (Int32.ofInt a).toInt = a := i32_toInt hg
  exact lv_tableIn hK.1 hK.2.1 hdg (by rw [eI]; omega) (by rw [eI]; omega) (by rw [eI, ha, show (lo + (n : Int) - lo).toNat = n by omega]; exact ho) ht (k p l e R s m args below meth cd D tc ad A H locs cells slots lsA hK hl hP hS hcs)
theorem x_lsw {a dflt off : Int} {ps : Array (Int × Int)} {len tgt : Nat} (hdg : decode mi.2.1 pc = .ok (.lookupswitch dflt ps, len)) (hp : (ps.toList.zip (ps.toList.drop 1)).all (fun (a, next) => a.1 < next.1) = true) (hg : inI a) (ho : Op.lookupswitch.offset ps.toList dflt a = off) (ht : (pc : Int) + off = (tgt : Int)) (k : xG wd d mi tgt ls st h Q) : xG wd d mi pc ls (.inl a :: st) h Q := by
  intro p l e R s m args below meth cd D tc ad A H locs cells slots lsA hK hl hP hS hcs
  exact lv_lookup hK.1 hK.2.1 hdg hp (by rw [i32_toInt hg]; exact ho) ht (k p l e R s m args below meth cd D tc ad A H locs cells slots lsA hK hl hP hS hcs)
/-- a field's link: by its own class, or by a nest mate -/
def xFld (own : String) (idx ci k : Nat) : Prop := ∃ C : vw_C, vwCl[ci]? = some C ∧ k < C.2.2 ∧ (∀ w ∈ u_ws C.1 C.2.1 C.2.2, w ∈ tblG) ∧
  (Cond.fieldLink own idx (C.2.1 k).1 (C.2.1 k).2.1 (C.2.1 k).2.2.1 ∈ tblG ∨ ∃ host, Cond.fieldLinkNest own idx (C.2.1 k).1 (C.2.1 k).2.1 (C.2.1 k).2.2.1 host ∈ tblN)
/-- it may be written too -/
def xFldP (ci k : Nat) (ty : FieldType) : Prop := ∃ (C : vw_C) (ty0 : Nat → FieldType), vwCl[ci]? = some C ∧ (∀ k, k < C.2.2 → parseFieldDescriptor (C.2.1 k).2.2.1 = some (ty0 k)) ∧ (∀ a, a < C.2.2 → ∀ b, b < C.2.2 → a ≠ b → (C.2.1 a).2.1 ≠ (C.2.1 b).2.1) ∧ (C.2.1 k).2.2.2 = false ∧ parseFieldDescriptor (C.2.1 k).2.2.1 = some ty
theorem x_get {c ci k idx : Nat} {fs : List (FieldType ⊕ Nat)} {f : FieldType ⊕ Nat} {v : xV} (hF : xFld mi.1.cls idx ci k) (hc : wd[c]? = some (.inr (ci, fs))) (hf : fs[k]? = some f) (hv : ∀ ad, xfv ad h c k f = xc ad v) (hdg : decode mi.2.1 pc = .ok (.getfield idx, 3)) (kk : xG wd d mi (pc + 3) ls (v :: st) h Q) : xG wd d mi pc ls (.inr (.inr c) :: st) h Q := by
  intro p l e R s m args below meth cd D tc ad A H locs cells slots lsA hK hl hP hS hcs
  obtain ⟨⟨C, T, N⟩, h1, h2, h3, h4⟩ := hF
  obtain ⟨hx, hb, hml, hr, hlk, hown, hts, hKK, hN, hi, hAi, hAq, hR, hX⟩ := id hK
  have hin : ∀ w ∈ u_ws C T N, w ∈ xwm mi := fun w hw => List.mem_cons_of_mem _ (h3 w hw)
  have he := xws_get (tc := tc) (ad := ad) (h := h) hc
  have hfv : (fs.mapIdx (xfv ad h c))[k]? = some (xc ad v) := by rw [List.getElem?_mapIdx, hf, ← hv ad]; rfl
  rcases h4 with h4 | ⟨host, h4⟩
  · exact va_get (C := C) (T := T) (N := N) hx hb hts hin hown hKK hP c he h1 k h2 (hts _ (List.mem_cons_of_mem _ h4)) (fun _ h9 => h9) hfv hdg (kk p l e R s m args below meth cd D tc ad A H locs cells slots lsA hK hl hP hS hcs)
  · exact va_getN (C := C) (T := T) (N := N) hx hb hts hin hown hKK hP c he h1 k h2 ((hN _ h4).use rfl) (fun _ h9 => h9) hfv hdg (kk p l e R s m args below meth cd D tc ad A H locs cells slots lsA hK hl hP hS hcs)
theorem x_put {c ci k idx : Nat} {fs : List (FieldType ⊕ Nat)} {ty : FieldType} {v : xV} {ki n : Int} (hF : xFld mi.1.cls idx ci k) (hFP : xFldP ci k ty) (hc : wd[c]? = some (.inr (ci, fs))) (hf : fs[k]? = some (.inl ty)) (hki : (k : Int) = ki) (hv : ∀ ad h, h c k = n → xfv ad h c k (.inl ty) = xc ad v) (hnr : ∀ ad, narrow ty (xc ad v) = xc ad v) (hft : ∀ ad, fits ty (xc ad v) = true) (hdg : decode mi.2.1 pc = .ok (.putfield idx, 3)) (kk : xG wd d mi (pc + 3) ls st (xu h c ki n) Q) : xG wd d mi pc ls (v :: .inr (.inr c) :: st) h Q := by
  intro p l e R s m args below meth cd D tc ad A H locs cells slots lsA hK hl hP hS hcs
  subst hki
  obtain ⟨⟨C, T, N⟩, h1, h2, h3, h4⟩ := hF
  obtain ⟨C2, ty0, g1, g2, g3, g4, g5⟩ := hFP
  have e2 : C2 = (C, T, N) := Option.some.inj (g1.symm.trans h1)
  subst e2
  obtain ⟨hx, hb, hml, hr, hlk, hown, hts, hKK, hN, hi, hAi, hAq, hR, hX⟩ := id hK
  have hin : ∀ w ∈ u_ws C T N, w ∈ xwm mi := fun w hw => List.mem_cons_of_mem _ (h3 w hw)
  have he := xws_get (tc := tc) (ad := ad) (h := h) hc
  have hfl : k < (fs.mapIdx (xfv ad h c)).length := by rw [List.length_mapIdx]; exact (List.getElem?_eq_some_iff.mp hf).1
  have e3 : (xws wd tc ad h).set c (ad c, .inr (ci, (fs.mapIdx (xfv ad h c)).set k (xc ad v))) = xws wd tc ad (xu h c k n) := by
    rw [← hv ad (xu h c k n) (by simp [xu]), xmi_set (h' := xu h c k n) hf (fun j hj => by simp [xu]; omega)]
    exact xws_set (h' := xu h c k n) (e := .inr (ci, fs)) hc (fun c' hc' => xu_oth hc')
  have hD := xD (tc := tc) hi hAi h
  rcases h4 with h4 | ⟨host, h4⟩
  · refine va_put (C := C) (T := T) (N := N) hx hb hts hin ty0 g2 g3 hown hKK hP hD hS c he h1 k h2 (hts _ (List.mem_cons_of_mem _ h4)) (fun _ h9 => h9) g4 g5 (hnr ad) (hft ad) hfl hdg (fun H1 locs1 hP1 hD1 hS1 => ?_)
    rw [e3] at hP1
    exact kk p l e R s m args below meth cd D tc ad A H1 locs1 cells slots lsA hK hl hP1 hS1 hcs
  · refine va_putN (C := C) (T := T) (N := N) hx hb hts hin ty0 g2 g3 hown hKK hP hD hS c he h1 k h2 ((hN _ h4).use rfl) (fun _ h9 => h9) g4 g5 (hnr ad) (hft ad) hfl hdg (fun H1 locs1 hP1 hD1 hS1 => ?_)
    rw [e3] at hP1
    exact kk p l e R s m args below meth cd D tc ad A H1 locs1 cells slots lsA hK hl hP1 hS1 hcs
theorem x_getI {c ci k idx : Nat} {fs : List (FieldType ⊕ Nat)} {ty : FieldType} {ki : Int} (hF : xFld mi.1.cls idx ci k) (hc : wd[c]? = some (.inr (ci, fs))) (hf : fs[k]? = some (.inl ty)) (hty : ty ≠ .long) (hki : (k : Int) = ki) (hdg : decode mi.2.1 pc = .ok (.getfield idx, 3)) (kk : xG wd d mi (pc + 3) ls (.inl (h c ki) :: st) h Q) : xG wd d mi pc ls (.inr (.inr c) :: st) h Q := by
  subst hki
  exact x_get hF hc hf (fun ad => by unfold xfv; split <;> simp_all [xc]) hdg kk
theorem x_getL {c ci k idx : Nat} {fs : List (FieldType ⊕ Nat)} {ki : Int} (hF : xFld mi.1.cls idx ci k) (hc : wd[c]? = some (.inr (ci, fs))) (hf : fs[k]? = some (.inl .long)) (hki : (k : Int) = ki) (hdg : decode mi.2.1 pc = .ok (.getfield idx, 3)) (kk : xG wd d mi (pc + 3) ls (.inr (.inl (h c ki)) :: st) h Q) : xG wd d mi pc ls (.inr (.inr c) :: st) h Q := by
  subst hki
  exact x_get hF hc hf (fun ad => rfl) hdg kk
theorem x_getR {c ci k idx c' : Nat} {fs : List (FieldType ⊕ Nat)} (hF : xFld mi.1.cls idx ci k) (hc : wd[c]? = some (.inr (ci, fs))) (hf : fs[k]? = some (.inr c')) (hdg : decode mi.2.1 pc = .ok (.getfield idx, 3)) (kk : xG wd d mi (pc + 3) ls (.inr (.inr c') :: st) h Q) : xG wd d mi pc ls (.inr (.inr c) :: st) h Q :=
  x_get hF hc hf (fun ad => rfl) hdg kk
theorem x_putI {c ci k idx : Nat} {fs : List (FieldType ⊕ Nat)} {ki n : Int} (hF : xFld mi.1.cls idx ci k) (hFP : xFldP ci k .int) (hc : wd[c]? = some (.inr (ci, fs))) (hf : fs[k]? = some (.inl .int)) (hki : (k : Int) = ki) (hdg : decode mi.2.1 pc = .ok (.putfield idx, 3)) (kk : xG wd d mi (pc + 3) ls st (xu h c ki n) Q) : xG wd d mi pc ls (.inl n :: .inr (.inr c) :: st) h Q :=
  x_put hF hFP hc hf hki (fun ad h e => by simp [xfv, xc, e]) (fun ad => rfl) (fun ad => rfl) hdg kk
theorem x_putL {c ci k idx : Nat} {fs : List (FieldType ⊕ Nat)} {ki n : Int} (hF : xFld mi.1.cls idx ci k) (hFP : xFldP ci k .long) (hc : wd[c]? = some (.inr (ci, fs))) (hf : fs[k]? = some (.inl .long)) (hki : (k : Int) = ki) (hdg : decode mi.2.1 pc = .ok (.putfield idx, 3)) (kk : xG wd d mi (pc + 3) ls st (xu h c ki n) Q) : xG wd d mi pc ls (.inr (.inl n) :: .inr (.inr c) :: st) h Q :=
  x_put hF hFP hc hf hki (fun ad h e => by simp [xfv, xc, e]) (fun ad => rfl) (fun ad => rfl) hdg kk
theorem x_putZ {c ci k idx : Nat} {fs : List (FieldType ⊕ Nat)} {ki n : Int} (hF : xFld mi.1.cls idx ci k) (hFP : xFldP ci k .boolean) (hc : wd[c]? = some (.inr (ci, fs))) (hf : fs[k]? = some (.inl .boolean)) (hki : (k : Int) = ki) (hg : n = 0 ∨ n = 1) (hdg : decode mi.2.1 pc = .ok (.putfield idx, 3)) (kk : xG wd d mi (pc + 3) ls st (xu h c ki n) Q) : xG wd d mi pc ls (.inl n :: .inr (.inr c) :: st) h Q :=
  x_put hF hFP hc hf hki (fun ad h e => by simp [xfv, xc, e]) (fun ad => by rcases hg with rfl | rfl <;> rfl) (fun ad => by rcases hg with rfl | rfl <;> rfl) hdg kk
theorem x_iald {c n : Nat} {i : Int} (hc : wd[c]? = some (.inl (.int, n))) (hn : n ≤ 2147483647) (hg : 0 ≤ i ∧ i < n) (hdg : decode mi.2.1 pc = .ok (.iaload, 1)) (kk : xG wd d mi (pc + 1) ls (.inl (h c i) :: st) h Q) : xG wd d mi pc ls (.inl i :: .inr (.inr c) :: st) h Q := by
  intro p l e R s m args below meth cd D tc ad A H locs cells slots lsA hK hl hP hS hcs
  have he := xws_get (tc := tc) (ad := ad) (h := h) hc
  have k1 := kk p l e R s m args below meth cd D tc ad A H locs cells slots lsA hK hl hP hS hcs
  refine va_iald hK.1 hK.2.1 hK.2.2.2.2.2.2.2.1 hP c 0 he rfl (i32_in hg.1 hg.2 hn) hdg ?_
  have e1 : (((Int32.ofInt i).toNatClampNeg : Nat) : Int) = i := by rw [i32_clamp hg.1 (by omega)]; omega
  rw [e1]
  exact k1
theorem x_lald {c n : Nat} {i : Int} (hc : wd[c]? = some (.inl (.long, n))) (hn : n ≤ 2147483647) (hg : 0 ≤ i ∧ i < n) (hdg : decode mi.2.1 pc = .ok (.laload, 1)) (kk : xG wd d mi (pc + 1) ls (.inr (.inl (h c i)) :: st) h Q) : xG wd d mi pc ls (.inl i :: .inr (.inr c) :: st) h Q := by
  intro p l e R s m args below meth cd D tc ad A H locs cells slots lsA hK hl hP hS hcs
  have he := xws_get (tc := tc) (ad := ad) (h := h) hc
  have k1 := kk p l e R s m args below meth cd D tc ad A H locs cells slots lsA hK hl hP hS hcs
  refine va_lald hK.1 hK.2.1 hK.2.2.2.2.2.2.2.1 hP c 1 he rfl (i32_in hg.1 hg.2 hn) hdg ?_
  have e1 : (((Int32.ofInt i).toNatClampNeg : Nat) : Int) = i := by rw [i32_clamp hg.1 (by omega)]; omega
  rw [e1]
  exact k1
theorem x_zald {c n : Nat} {i : Int} (hc : wd[c]? = some (.inl (.boolean, n))) (hn : n ≤ 2147483647) (hg : 0 ≤ i ∧ i < n) (hdg : decode mi.2.1 pc = .ok (.baload, 1)) (kk : xG wd d mi (pc + 1) ls (.inl (h c i) :: st) h Q) : xG wd d mi pc ls (.inl i :: .inr (.inr c) :: st) h Q := by
  intro p l e R s m args below meth cd D tc ad A H locs cells slots lsA hK hl hP hS hcs
  have he := xws_get (tc := tc) (ad := ad) (h := h) hc
  have k1 := kk p l e R s m args below meth cd D tc ad A H locs cells slots lsA hK hl hP hS hcs
  refine va_zald hK.1 hK.2.1 hK.2.2.2.2.2.2.2.1 hP c 2 he rfl (i32_in hg.1 hg.2 hn) hdg ?_
  have e1 : (((Int32.ofInt i).toNatClampNeg : Nat) : Int) = i := by rw [i32_clamp hg.1 (by omega)]; omega
  rw [e1]
  exact k1
theorem x_cald {c n : Nat} {i : Int} (hc : wd[c]? = some (.inl (.char, n))) (hn : n ≤ 2147483647) (hg : 0 ≤ i ∧ i < n) (hdg : decode mi.2.1 pc = .ok (.caload, 1)) (kk : xG wd d mi (pc + 1) ls (.inl (h c i) :: st) h Q) : xG wd d mi pc ls (.inl i :: .inr (.inr c) :: st) h Q := by
  intro p l e R s m args below meth cd D tc ad A H locs cells slots lsA hK hl hP hS hcs
  have he := xws_get (tc := tc) (ad := ad) (h := h) hc
  have k1 := kk p l e R s m args below meth cd D tc ad A H locs cells slots lsA hK hl hP hS hcs
  refine va_cald hK.1 hK.2.1 hK.2.2.2.2.2.2.2.1 hP c 3 he rfl (i32_in hg.1 hg.2 hn) hdg ?_
  have e1 : (((Int32.ofInt i).toNatClampNeg : Nat) : Int) = i := by rw [i32_clamp hg.1 (by omega)]; omega
  rw [e1]
  exact k1
theorem x_iast {c n : Nat} {i v : Int} (hc : wd[c]? = some (.inl (.int, n))) (hn : n ≤ 2147483647) (hg : 0 ≤ i ∧ i < n) (hdg : decode mi.2.1 pc = .ok (.iastore, 1)) (kk : xG wd d mi (pc + 1) ls st (xu h c i v) Q) : xG wd d mi pc ls (.inl v :: .inl i :: .inr (.inr c) :: st) h Q := by
  intro p l e R s m args below meth cd D tc ad A H locs cells slots lsA hK hl hP hS hcs
  have he := xws_get (tc := tc) (ad := ad) (h := h) hc
  obtain ⟨hx, hb, hml, hr, hlk, hown, hts, hKK, hN, hi, hAi, hAq, hR, hX⟩ := id hK
  have hD := xD (tc := tc) hi hAi h
  refine va_iast hx hb hKK hP hD hS c 0 he rfl (i32_in hg.1 hg.2 hn) hdg (fun H1 locs1 hP1 hD1 hS1 => ?_)
  have e1 : (Int32.ofInt i).toNatClampNeg = i.toNat := i32_clamp hg.1 (by omega)
  have e2 : upd (fun j : Nat => Int32.ofInt (h c j)) (Int32.ofInt i).toNatClampNeg (Int32.ofInt v) = (fun j : Nat => Int32.ofInt (xu h c i v c j)) := by
    funext j
    rw [e1]
    simp only [upd, xu]
    by_cases hj : j = i.toNat
    · have : (j : Int) = i := by omega
      rw [if_pos hj, if_pos ⟨trivial, this⟩]
    · have : ¬ (j : Int) = i := by omega
      rw [if_neg hj, if_neg (fun z => this z.2)]
  rw [e2] at hP1
  have e3 := xws_set (wd := wd) (tc := tc) (ad := ad) (h := h) (h' := xu h c i v) (e := .inl (.int, n)) hc (fun c' hc' => xu_oth hc')
  exact kk p l e R s m args below meth cd D tc ad A H1 locs1 cells slots lsA hK hl (by rw [← e3]; exact hP1) hS1 hcs
theorem x_last {c n : Nat} {i v : Int} (hc : wd[c]? = some (.inl (.long, n))) (hn : n ≤ 2147483647) (hg : 0 ≤ i ∧ i < n) (hdg : decode mi.2.1 pc = .ok (.lastore, 1)) (kk : xG wd d mi (pc + 1) ls st (xu h c i v) Q) : xG wd d mi pc ls (.inr (.inl v) :: .inl i :: .inr (.inr c) :: st) h Q := by
  intro p l e R s m args below meth cd D tc ad A H locs cells slots lsA hK hl hP hS hcs
  have he := xws_get (tc := tc) (ad := ad) (h := h) hc
  obtain ⟨hx, hb, hml, hr, hlk, hown, hts, hKK, hN, hi, hAi, hAq, hR, hX⟩ := id hK
  have hD := xD (tc := tc) hi hAi h
  refine va_last hx hb hKK hP hD hS c 1 he rfl (i32_in hg.1 hg.2 hn) hdg (fun H1 locs1 hP1 hD1 hS1 => ?_)
  have e1 : (Int32.ofInt i).toNatClampNeg = i.toNat := i32_clamp hg.1 (by omega)
  have e2 : vp_updL (fun j : Nat => Int64.ofInt (h c j)) (Int32.ofInt i).toNatClampNeg (Int64.ofInt v) = (fun j : Nat => Int64.ofInt (xu h c i v c j)) := by
    funext j
    rw [e1]
    simp only [vp_updL, xu]
    by_cases hj : j = i.toNat
    · have : (j : Int) = i := by omega
      rw [if_pos hj, if_pos ⟨trivial, this⟩]
    · have : ¬ (j : Int) = i := by omega
      rw [if_neg hj, if_neg (fun z => this z.2)]
  rw [e2] at hP1
  have e3 := xws_set (wd := wd) (tc := tc) (ad := ad) (h := h) (h' := xu h c i v) (e := .inl (.long, n)) hc (fun c' hc' => xu_oth hc')
  exact kk p l e R s m args below meth cd D tc ad A H1 locs1 cells slots lsA hK hl (by rw [← e3]; exact hP1) hS1 hcs
theorem x_zast {c n : Nat} {i v : Int} (hc : wd[c]? = some (.inl (.boolean, n))) (hn : n ≤ 2147483647) (hg : 0 ≤ i ∧ i < n) (hz : v = 0 ∨ v = 1) (hdg : decode mi.2.1 pc = .ok (.bastore, 1)) (kk : xG wd d mi (pc + 1) ls st (xu h c i v) Q) : xG wd d mi pc ls (.inl v :: .inl i :: .inr (.inr c) :: st) h Q := by
  intro p l e R s m args below meth cd D tc ad A H locs cells slots lsA hK hl hP hS hcs
  have he := xws_get (tc := tc) (ad := ad) (h := h) hc
  obtain ⟨hx, hb, hml, hr, hlk, hown, hts, hKK, hN, hi, hAi, hAq, hR, hX⟩ := id hK
  have hD := xD (tc := tc) hi hAi h
  refine va_zast hx hb hKK hP hD hS c 2 he rfl (i32_in hg.1 hg.2 hn) hdg (fun H1 locs1 hP1 hD1 hS1 => ?_)
  have e1 : (Int32.ofInt i).toNatClampNeg = i.toNat := i32_clamp hg.1 (by omega)
  have e0 : vp_nar .boolean (Int32.ofInt v) = Int32.ofInt v := by rcases hz with rfl | rfl <;> rfl
  rw [e0] at hP1
  have e2 : upd (fun j : Nat => Int32.ofInt (h c j)) (Int32.ofInt i).toNatClampNeg (Int32.ofInt v) = (fun j : Nat => Int32.ofInt (xu h c i v c j)) := by
    funext j
    rw [e1]
    simp only [upd, xu]
    by_cases hj : j = i.toNat
    · have : (j : Int) = i := by omega
      rw [if_pos hj, if_pos ⟨trivial, this⟩]
    · have : ¬ (j : Int) = i := by omega
      rw [if_neg hj, if_neg (fun z => this z.2)]
  rw [e2] at hP1
  have e3 := xws_set (wd := wd) (tc := tc) (ad := ad) (h := h) (h' := xu h c i v) (e := .inl (.boolean, n)) hc (fun c' hc' => xu_oth hc')
  exact kk p l e R s m args below meth cd D tc ad A H1 locs1 cells slots lsA hK hl (by rw [← e3]; exact hP1) hS1 hcs
theorem x_alen {c n : Nat} {ni : Int} (hc : wd[c]? = some (.inl (.int, n))) (hni : (n : Int) = ni) (hdg : decode mi.2.1 pc = .ok (.arraylength, 1)) (kk : xG wd d mi (pc + 1) ls (.inl ni :: st) h Q) : xG wd d mi pc ls (.inr (.inr c) :: st) h Q := by
  intro p l e R s m args below meth cd D tc ad A H locs cells slots lsA hK hl hP hS hcs
  subst hni
  have he := xws_get (tc := tc) (ad := ad) (h := h) hc
  exact va_alen hK.1 hK.2.1 hK.2.2.2.2.2.2.2.1 hP c 0 he (ty := .int) rfl rfl hdg (kk p l e R s m args below meth cd D tc ad A H locs cells slots lsA hK hl hP hS hcs)
theorem x_iret {a : Int} (hr : mi.2.2.2 = some .int) (hdg : decode mi.2.1 pc = .ok (.ireturn, 1)) (hQ : Q (some (.inl a)) h) : xG wd d mi pc ls [.inl a] h Q := by
  intro p l e R s m args below meth cd D tc ad A H locs cells slots lsA hK hl hP hS hcs
  obtain ⟨hx, hb, hml, hrt, hlk, hown, hts, hKK, hN, hi, hAi, hAq, hR, hX⟩ := id hK
  exact W.iret hx hb (hrt.trans hr) (fun t ht hW => ⟨⟨some (.inl a), h, rfl, hQ, by rw [ht]; exact hP⟩, hS.F ht⟩) hS.2.2 hdg
theorem x_zret {a : Int} (hr : mi.2.2.2 = some .boolean) (hdg : decode mi.2.1 pc = .ok (.ireturn, 1)) (hg : a = 0 ∨ a = 1) (hQ : Q (some (.inl a)) h) : xG wd d mi pc ls [.inl a] h Q := by
  intro p l e R s m args below meth cd D tc ad A H locs cells slots lsA hK hl hP hS hcs
  obtain ⟨hx, hb, hml, hrt, hlk, hown, hts, hKK, hN, hi, hAi, hAq, hR, hX⟩ := id hK
  exact W.zret (ty := .boolean) hx hb (hrt.trans hr) (by rcases hg with rfl | rfl <;> rfl) (fun t ht hW => ⟨⟨some (.inl a), h, rfl, hQ, by rw [ht]; exact hP⟩, hS.F ht⟩) hS.2.2 hdg
theorem x_cret {a : Int} {ty : FieldType} (hr : mi.2.2.2 = some ty) (hn : narrow ty (.int (Int32.ofInt a)) = .int (Int32.ofInt a)) (hdg : decode mi.2.1 pc = .ok (.ireturn, 1)) (hQ : Q (some (.inl a)) h) : xG wd d mi pc ls [.inl a] h Q := by
  intro p l e R s m args below meth cd D tc ad A H locs cells slots lsA hK hl hP hS hcs
  obtain ⟨hx, hb, hml, hrt, hlk, hown, hts, hKK, hN, hi, hAi, hAq, hR, hX⟩ := id hK
  exact W.zret (ty := ty) hx hb (hrt.trans hr) hn (fun t ht hW => ⟨⟨some (.inl a), h, rfl, hQ, by rw [ht]; exact hP⟩, hS.F ht⟩) hS.2.2 hdg
theorem x_lret {a : Int} (hr : mi.2.2.2 = some .long) (hdg : decode mi.2.1 pc = .ok (.lreturn, 1)) (hQ : Q (some (.inr (.inl a))) h) : xG wd d mi pc ls [.inr (.inl a)] h Q := by
  intro p l e R s m args below meth cd D tc ad A H locs cells slots lsA hK hl hP hS hcs
  obtain ⟨hx, hb, hml, hrt, hlk, hown, hts, hKK, hN, hi, hAi, hAq, hR, hX⟩ := id hK
  exact W.lret hx hb (hrt.trans hr) (fun t ht hW => ⟨⟨some (.inr (.inl a)), h, rfl, hQ, by rw [ht]; exact hP⟩, hS.F ht⟩) hS.2.2 hdg
theorem x_vret (hr : mi.2.2.2 = none) (hdg : decode mi.2.1 pc = .ok (.return_, 1)) (hQ : Q none h) : xG wd d mi pc ls [] h Q := by
  intro p l e R s m args below meth cd D tc ad A H locs cells slots lsA hK hl hP hS hcs
  obtain ⟨hx, hb, hml, hrt, hlk, hown, hts, hKK, hN, hi, hAi, hAq, hR, hX⟩ := id hK
  exact W.vret hx hb (hrt.trans hr) (fun t ht hW => ⟨⟨none, h, rfl, hQ, by rw [ht]; exact hP⟩, hS.F ht⟩) hS.2.2 hdg
theorem x_aret {a : Nat} {nm : String} (hr : mi.2.2.2 = some (.object nm)) (hdg : decode mi.2.1 pc = .ok (.areturn, 1)) (hQ : Q (some (.inr (.inr a))) h) : xG wd d mi pc ls [.inr (.inr a)] h Q := by
  intro p l e R s m args below meth cd D tc ad A H locs cells slots lsA hK hl hP hS hcs
  obtain ⟨hx, hb, hml, hrt, hlk, hown, hts, hKK, hN, hi, hAi, hAq, hR, hX⟩ := id hK
  exact W.aret hx hb (hrt.trans hr) (Or.inl ⟨nm, rfl⟩) (Or.inr ⟨ad a, rfl⟩) (fun t ht hW => ⟨⟨some (.inr (.inr a)), h, rfl, hQ, by rw [ht]; exact hP⟩, hS.F ht⟩) hS.2.2 hdg
/-- n places of a cell over another one's, from 0 on -/
theorem x_nfw : nativeFrameWords "java/lang/System" "arraycopy" 5 + 11 ≤ 40 := by decide +kernel
def xcp (h : xH) (c0 c1 : Nat) (n : Int) : xH := fun c i => if c = c1 ∧ 0 ≤ i ∧ i < n then h c0 i else h c i
theorem x_copy {c0 c1 n0 n1 idx : Nat} {n : Int} (h0 : wd[c0]? = some (.inl (.int, n0))) (h1 : wd[c1]? = some (.inl (.int, n1))) (hl1 : Cond.methodLink mi.1.cls idx arraycopyName ∈ tblG) (hl2 : Cond.native arraycopyName ∈ tblG) (hl3 : Cond.static arraycopyName ∈ tblG) (hl4 : Cond.initialized "java/lang/System" ∈ tblG) (hg : (0 ≤ n ∧ n ≤ n0) ∧ n ≤ n1 ∧ n0 ≤ 100000) (hrest : (st.map xcat).sum ≤ 8) (hd : 1 ≤ d) (hdg : decode mi.2.1 pc = .ok (.invokestatic idx, 3)) (kk : xG wd d mi (pc + 3) ls st (xcp h c0 c1 n) Q) : xG wd d mi pc ls (.inl n :: .inl 0 :: .inr (.inr c1) :: .inl 0 :: .inr (.inr c0) :: st) h Q := by
  intro p l e R s m args below meth cd D tc ad A H locs cells slots lsA hK hl hP hS hcs
  obtain ⟨hx, hb, hml, hr, hlk, hown, hts, hKK, hN, hi, hAi, hAq, hR, hX⟩ := id hK
  have hD := xD (tc := tc) hi hAi h
  have hin' : (∀ w ∈ tblG, w.before args s = true) := fun w hw => hts w (List.mem_cons_of_mem _ hw)
  have en : (Int32.ofInt n).toNatClampNeg = n.toNat := i32_clamp hg.1.1 (by omega)
  have e0 : (Int32.ofInt 0).toNatClampNeg = 0 := rfl
  refine va_copyi (ty := .int) hx hb (hml.trans hl.1.symm) hown (hin' _ hl1) (hin' _ hl2) (hin' _ hl3) (hin' _ hl4) hKK hP hD hS c0 c1 0 0 (xws_get h0) (xws_get h1) rfl rfl rfl (sp := Int32.ofInt 0) (dp := Int32.ofInt 0) (n := Int32.ofInt n) (by decide) (by decide) (by rw [show (0 : Int32) = Int32.ofInt 0 from rfl, i32_lt ⟨by omega, by omega⟩ inI_0]; omega) (by rw [en, e0]; omega) (by rw [en, e0]; omega) (fun i _ => rfl) (by omega) (by rw [xcat_sum]; have := x_nfw; omega) hdg (fun H1 locs1 hP1 hD1 hS1 => ?_)
  have e2 : va_cpy (fun j : Nat => Int32.ofInt (h c0 j)) (fun j : Nat => Int32.ofInt (h c1 j)) (Int32.ofInt 0).toNatClampNeg (Int32.ofInt 0).toNatClampNeg (Int32.ofInt n).toNatClampNeg = (fun j : Nat => Int32.ofInt (xcp h c0 c1 n c1 j)) := by
    funext j
    rw [e0, en]
    simp only [va_cpy, xcp]
    by_cases hj : j < n.toNat
    · have h2 : (j : Int) < n := by omega
      have h3 : j < 0 + n.toNat := by omega
      simp [h2]
    · have h2 : ¬ (j : Int) < n := by omega
      have h3 : ¬ j < 0 + n.toNat := by omega
      simp [h2]
  rw [e2] at hP1
  have e3 := xws_set (wd := wd) (tc := tc) (ad := ad) (h := h) (h' := xcp h c0 c1 n) (e := .inl (.int, n1)) h1 (fun c' hc' => by funext j; simp [xcp, hc'])
  exact kk p l e R s m args below meth cd D tc ad A H1 locs1 cells slots lsA hK hl (by rw [← e3]; exact hP1) hS1 hcs
theorem x_mmax {a b : Int} {idx : Nat} (hl1 : Cond.methodLink mi.1.cls idx Lib.Math.max.name ∈ tblG) (hl2 : Cond.static Lib.Math.max.name ∈ tblG) (hl3 : Cond.initialized "java/lang/Math" ∈ tblG) (hl4 : Cond.code Lib.Math.max.name Lib.Math.max.code 2 (some .int) ∈ tblG) (hg : inI a ∧ inI b) (hrest : (st.map xcat).sum ≤ 8) (hd : 1 ≤ d) (hdg : decode mi.2.1 pc = .ok (.invokestatic idx, 3)) (kk : xG wd d mi (pc + 3) ls (.inl (max a b) :: st) h Q) : xG wd d mi pc ls (.inl b :: .inl a :: st) h Q := by
  intro p l e R s m args below meth cd D tc ad A H locs cells slots lsA hK hl hP hS hcs
  obtain ⟨hx, hb, hml, hr, hlk, hown, hts, hKK, hN, hi, hAi, hAq, hR, hX⟩ := id hK
  have hin' : (∀ w ∈ tblG, w.before args s = true) := fun w hw => hts w (List.mem_cons_of_mem _ hw)
  have k1 := kk p l e R s m args below meth cd D tc ad A H locs cells slots lsA hK hl hP hS hcs
  refine va_mmax hx hb (hml.trans hl.1.symm) hown (hin' _ hl1) (hin' _ hl2) (hin' _ hl3) (hin' _ hl4) (by omega) (by rw [xcat_sum]; omega) hcs.1 hcs.2 hdg ?_
  rw [show (if Int32.ofInt a < Int32.ofInt b then Int32.ofInt b else Int32.ofInt a) = Int32.ofInt (max a b) from by rw [← apply_ite Int32.ofInt]; simp only [i32_lt hg.1 hg.2]; congr 1; split <;> omega]
  exact k1
theorem x_mmin {a b : Int} {idx : Nat} (hl1 : Cond.methodLink mi.1.cls idx Lib.Math.min.name ∈ tblG) (hl2 : Cond.static Lib.Math.min.name ∈ tblG) (hl3 : Cond.initialized "java/lang/Math" ∈ tblG) (hl4 : Cond.code Lib.Math.min.name Lib.Math.min.code 2 (some .int) ∈ tblG) (hg : inI a ∧ inI b) (hrest : (st.map xcat).sum ≤ 8) (hd : 1 ≤ d) (hdg : decode mi.2.1 pc = .ok (.invokestatic idx, 3)) (kk : xG wd d mi (pc + 3) ls (.inl (min a b) :: st) h Q) : xG wd d mi pc ls (.inl b :: .inl a :: st) h Q := by
  intro p l e R s m args below meth cd D tc ad A H locs cells slots lsA hK hl hP hS hcs
  obtain ⟨hx, hb, hml, hr, hlk, hown, hts, hKK, hN, hi, hAi, hAq, hR, hX⟩ := id hK
  have hin' : (∀ w ∈ tblG, w.before args s = true) := fun w hw => hts w (List.mem_cons_of_mem _ hw)
  have k1 := kk p l e R s m args below meth cd D tc ad A H locs cells slots lsA hK hl hP hS hcs
  refine va_mmin hx hb (hml.trans hl.1.symm) hown (hin' _ hl1) (hin' _ hl2) (hin' _ hl3) (hin' _ hl4) (by omega) (by rw [xcat_sum]; omega) hcs.1 hcs.2 hdg ?_
  rw [show (if Int32.ofInt b < Int32.ofInt a then Int32.ofInt b else Int32.ofInt a) = Int32.ofInt (min a b) from by rw [← apply_ite Int32.ofInt]; simp only [i32_lt hg.2 hg.1]; congr 1; split <;> omega]
  exact k1
theorem x_mabs {a b : Int} {idx : Nat} (hl1 : Cond.methodLink mi.1.cls idx Lib.Math.abs.name ∈ tblG) (hl2 : Cond.static Lib.Math.abs.name ∈ tblG) (hl3 : Cond.initialized "java/lang/Math" ∈ tblG) (hl4 : Cond.code Lib.Math.abs.name Lib.Math.abs.code 1 (some .int) ∈ tblG) (hg : inI a) (hrest : (st.map xcat).sum ≤ 8) (hd : 1 ≤ d) (hdg : decode mi.2.1 pc = .ok (.invokestatic idx, 3)) (kk : xG wd d mi (pc + 3) ls (.inl (max a (-a)) :: st) h Q) : xG wd d mi pc ls (.inl a :: st) h Q := by
  intro p l e R s m args below meth cd D tc ad A H locs cells slots lsA hK hl hP hS hcs
  obtain ⟨hx, hb, hml, hr, hlk, hown, hts, hKK, hN, hi, hAi, hAq, hR, hX⟩ := id hK
  have hin' : (∀ w ∈ tblG, w.before args s = true) := fun w hw => hts w (List.mem_cons_of_mem _ hw)
  have k1 := kk p l e R s m args below meth cd D tc ad A H locs cells slots lsA hK hl hP hS hcs
  refine va_mabs hx hb (hml.trans hl.1.symm) hown (hin' _ hl1) (hin' _ hl2) (hin' _ hl3) (hin' _ hl4) (by omega) (by rw [xcat_sum]; omega) hcs.1 hcs.2 hdg ?_
  rw [show (if 0 ≤ Int32.ofInt a then Int32.ofInt a else 0 - Int32.ofInt a) = Int32.ofInt (max a (-a)) from by rw [show (0 : Int32) = Int32.ofInt 0 from rfl, ← Int32.ofInt_sub, ← apply_ite Int32.ofInt]; simp only [i32_le inI_0 hg]; congr 1; split <;> omega]
  exact k1
end XR
end
section
/-! the two worlds, the methods, what the tables say of fields and calls (written by wip/whole/seg.py) -/
theorem tblA_m1 {w : Cond} (h : w ∈ tables_1_1) : w ∈ lw_tbl := List.mem_append_right _ (show w ∈ tables_1 from List.mem_append_left _ h)
set_option maxRecDepth 20000 in
theorem tblG_m1 {w : Cond} (i : Nat) (h : tables_1_1[i]? = some w) (hg : goodWord w = true) : w ∈ tblG := List.mem_filter.mpr ⟨tblA_m1 (List.mem_of_getElem? h), hg⟩
set_option maxRecDepth 20000 in
theorem tblN_m1 {w : Cond} (i : Nat) (h : tables_1_1[i]? = some w) (hg : x_nest w = true) : w ∈ tblN := List.mem_filter.mpr ⟨tblA_m1 (List.mem_of_getElem? h), hg⟩
theorem tblA_m2 {w : Cond} (h : w ∈ tables_1_2) : w ∈ lw_tbl := List.mem_append_right _ (show w ∈ tables_1 from List.mem_append_right _ (List.mem_append_left _ h))
set_option maxRecDepth 20000 in
theorem tblG_m2 {w : Cond} (i : Nat) (h : tables_1_2[i]? = some w) (hg : goodWord w = true) : w ∈ tblG := List.mem_filter.mpr ⟨tblA_m2 (List.mem_of_getElem? h), hg⟩
set_option maxRecDepth 20000 in
theorem tblN_m2 {w : Cond} (i : Nat) (h : tables_1_2[i]? = some w) (hg : x_nest w = true) : w ∈ tblN := List.mem_filter.mpr ⟨tblA_m2 (List.mem_of_getElem? h), hg⟩
theorem tblA_m3 {w : Cond} (h : w ∈ tables_1_3) : w ∈ lw_tbl := List.mem_append_right _ (show w ∈ tables_1 from List.mem_append_right _ (List.mem_append_right _ (List.mem_append_left _ h)))
set_option maxRecDepth 20000 in
theorem tblG_m3 {w : Cond} (i : Nat) (h : tables_1_3[i]? = some w) (hg : goodWord w = true) : w ∈ tblG := List.mem_filter.mpr ⟨tblA_m3 (List.mem_of_getElem? h), hg⟩
set_option maxRecDepth 20000 in
theorem tblN_m3 {w : Cond} (i : Nat) (h : tables_1_3[i]? = some w) (hg : x_nest w = true) : w ∈ tblN := List.mem_filter.mpr ⟨tblA_m3 (List.mem_of_getElem? h), hg⟩
theorem tblA_m4 {w : Cond} (h : w ∈ tables_1_4) : w ∈ lw_tbl := List.mem_append_right _ (show w ∈ tables_1 from List.mem_append_right _ (List.mem_append_right _ (List.mem_append_right _ (List.mem_append_left _ h))))
set_option maxRecDepth 20000 in
theorem tblG_m4 {w : Cond} (i : Nat) (h : tables_1_4[i]? = some w) (hg : goodWord w = true) : w ∈ tblG := List.mem_filter.mpr ⟨tblA_m4 (List.mem_of_getElem? h), hg⟩
set_option maxRecDepth 20000 in
theorem tblN_m4 {w : Cond} (i : Nat) (h : tables_1_4[i]? = some w) (hg : x_nest w = true) : w ∈ tblN := List.mem_filter.mpr ⟨tblA_m4 (List.mem_of_getElem? h), hg⟩
theorem tblA_m5 {w : Cond} (h : w ∈ tables_1_5) : w ∈ lw_tbl := List.mem_append_right _ (show w ∈ tables_1 from List.mem_append_right _ (List.mem_append_right _ (List.mem_append_right _ (List.mem_append_right _ (List.mem_append_left _ h)))))
set_option maxRecDepth 20000 in
theorem tblG_m5 {w : Cond} (i : Nat) (h : tables_1_5[i]? = some w) (hg : goodWord w = true) : w ∈ tblG := List.mem_filter.mpr ⟨tblA_m5 (List.mem_of_getElem? h), hg⟩
set_option maxRecDepth 20000 in
theorem tblN_m5 {w : Cond} (i : Nat) (h : tables_1_5[i]? = some w) (hg : x_nest w = true) : w ∈ tblN := List.mem_filter.mpr ⟨tblA_m5 (List.mem_of_getElem? h), hg⟩
theorem tblA_m6 {w : Cond} (h : w ∈ tables_1_6) : w ∈ lw_tbl := List.mem_append_right _ (show w ∈ tables_1 from List.mem_append_right _ (List.mem_append_right _ (List.mem_append_right _ (List.mem_append_right _ (List.mem_append_right _ (h))))))
set_option maxRecDepth 20000 in
theorem tblG_m6 {w : Cond} (i : Nat) (h : tables_1_6[i]? = some w) (hg : goodWord w = true) : w ∈ tblG := List.mem_filter.mpr ⟨tblA_m6 (List.mem_of_getElem? h), hg⟩
set_option maxRecDepth 20000 in
theorem tblN_m6 {w : Cond} (i : Nat) (h : tables_1_6[i]? = some w) (hg : x_nest w = true) : w ∈ tblN := List.mem_filter.mpr ⟨tblA_m6 (List.mem_of_getElem? h), hg⟩
set_option maxRecDepth 20000 in
theorem tblG_p1 {y : MethodName} (i : Nat) (h : (lw_privs_1[i]?).map (fun q => q.1) = some y) (hg : goodWord (Cond.selects y.cls y y) = true) : Cond.selects y.cls y y ∈ tblG := by
  obtain ⟨q, hq, rfl⟩ := Option.map_eq_some_iff.mp h
  have h := List.mem_of_getElem? hq
  exact List.mem_filter.mpr ⟨List.mem_append_left _ (List.mem_map_of_mem (f := fun q : MethodName × Nat => Cond.selects q.1.cls q.1 q.1) (show q ∈ lw_privs from List.mem_append_left _ h)), hg⟩
set_option maxRecDepth 20000 in
theorem tblG_p2 {y : MethodName} (i : Nat) (h : (lw_privs_2[i]?).map (fun q => q.1) = some y) (hg : goodWord (Cond.selects y.cls y y) = true) : Cond.selects y.cls y y ∈ tblG := by
  obtain ⟨q, hq, rfl⟩ := Option.map_eq_some_iff.mp h
  have h := List.mem_of_getElem? hq
  exact List.mem_filter.mpr ⟨List.mem_append_left _ (List.mem_map_of_mem (f := fun q : MethodName × Nat => Cond.selects q.1.cls q.1 q.1) (show q ∈ lw_privs from List.mem_append_right _ (List.mem_append_left _ h))), hg⟩
set_option maxRecDepth 20000 in
theorem tblG_p3 {y : MethodName} (i : Nat) (h : (lw_privs_3[i]?).map (fun q => q.1) = some y) (hg : goodWord (Cond.selects y.cls y y) = true) : Cond.selects y.cls y y ∈ tblG := by
  obtain ⟨q, hq, rfl⟩ := Option.map_eq_some_iff.mp h
  have h := List.mem_of_getElem? hq
  exact List.mem_filter.mpr ⟨List.mem_append_left _ (List.mem_map_of_mem (f := fun q : MethodName × Nat => Cond.selects q.1.cls q.1 q.1) (show q ∈ lw_privs from List.mem_append_right _ (List.mem_append_right _ (List.mem_append_left _ h)))), hg⟩
set_option maxRecDepth 20000 in
theorem tblG_p4 {y : MethodName} (i : Nat) (h : (lw_privs_4[i]?).map (fun q => q.1) = some y) (hg : goodWord (Cond.selects y.cls y y) = true) : Cond.selects y.cls y y ∈ tblG := by
  obtain ⟨q, hq, rfl⟩ := Option.map_eq_some_iff.mp h
  have h := List.mem_of_getElem? hq
  exact List.mem_filter.mpr ⟨List.mem_append_left _ (List.mem_map_of_mem (f := fun q : MethodName × Nat => Cond.selects q.1.cls q.1 q.1) (show q ∈ lw_privs from List.mem_append_right _ (List.mem_append_right _ (List.mem_append_right _ (List.mem_append_left _ h))))), hg⟩
set_option maxRecDepth 20000 in
theorem tblG_p5 {y : MethodName} (i : Nat) (h : (lw_privs_5[i]?).map (fun q => q.1) = some y) (hg : goodWord (Cond.selects y.cls y y) = true) : Cond.selects y.cls y y ∈ tblG := by
  obtain ⟨q, hq, rfl⟩ := Option.map_eq_some_iff.mp h
  have h := List.mem_of_getElem? hq
  exact List.mem_filter.mpr ⟨List.mem_append_left _ (List.mem_map_of_mem (f := fun q : MethodName × Nat => Cond.selects q.1.cls q.1 q.1) (show q ∈ lw_privs from List.mem_append_right _ (List.mem_append_right _ (List.mem_append_right _ (List.mem_append_right _ (List.mem_append_left _ h)))))), hg⟩
set_option maxRecDepth 20000 in
theorem tblG_p6 {y : MethodName} (i : Nat) (h : (lw_privs_6[i]?).map (fun q => q.1) = some y) (hg : goodWord (Cond.selects y.cls y y) = true) : Cond.selects y.cls y y ∈ tblG := by
  obtain ⟨q, hq, rfl⟩ := Option.map_eq_some_iff.mp h
  have h := List.mem_of_getElem? hq
  exact List.mem_filter.mpr ⟨List.mem_append_left _ (List.mem_map_of_mem (f := fun q : MethodName × Nat => Cond.selects q.1.cls q.1 q.1) (show q ∈ lw_privs from List.mem_append_right _ (List.mem_append_right _ (List.mem_append_right _ (List.mem_append_right _ (List.mem_append_right _ (h))))))), hg⟩
def wdC : List xE := [.inr (7, [.inr 1, .inr 6, .inr 11, .inr 16, .inl .boolean, .inr 21, .inr 26, .inr 32, .inr 39, .inr 44, .inr 50, .inr 53, .inl .int]),
  .inr (3, [.inl .int, .inl .int, .inl .int, .inr 2, .inr 3, .inr 4, .inl .int, .inr 5]),
  .inl (.int, 30),
  .inl (.int, 30),
  .inl (.int, 30),
  .inl (.int, 10),
  .inr (0, [.inr 7, .inr 8, .inl .long, .inl .int, .inr 9, .inr 10, .inl .int]),
  .inl (.int, 24),
  .inl (.int, 24),
  .inl (.int, 30),
  .inl (.int, 30),
  .inr (3, [.inl .int, .inl .int, .inl .int, .inr 12, .inr 13, .inr 14, .inl .int, .inr 15]),
  .inl (.int, 30),
  .inl (.int, 30),
  .inl (.int, 30),
  .inl (.int, 10),
  .inr (0, [.inr 17, .inr 18, .inl .long, .inl .int, .inr 19, .inr 20, .inl .int]),
  .inl (.int, 24),
  .inl (.int, 24),
  .inl (.int, 30),
  .inl (.int, 30),
  .inr (3, [.inl .int, .inl .int, .inl .int, .inr 22, .inr 23, .inr 24, .inl .int, .inr 25]),
  .inl (.int, 30),
  .inl (.int, 30),
  .inl (.int, 30),
  .inl (.int, 10),
  .inr (2, [.inr 27, .inr 28, .inr 29, .inr 30, .inr 31]),
  .inl (.long, 30),
  .inl (.long, 30),
  .inl (.int, 30),
  .inl (.int, 30),
  .inl (.int, 12),
  .inr (6, [.inl .int, .inl .boolean, .inr 33, .inr 34, .inr 35, .inr 36, .inr 37, .inr 38]),
  .inl (.int, 12),
  .inl (.int, 12),
  .inl (.int, 12),
  .inl (.boolean, 4096),
  .inl (.long, 4096),
  .inl (.int, 49152),
  .inr (1, [.inl .int, .inl .int, .inl .int, .inl .int, .inr 40, .inr 41, .inr 42, .inr 43]),
  .inl (.int, 10),
  .inl (.int, 10),
  .inl (.int, 10),
  .inl (.int, 1024),
  .inr (5, [.inr 45, .inl .int, .inl .int, .inl .int, .inl .int, .inr 46, .inr 47, .inr 48, .inr 49]),
  .inl (.int, 120),
  .inl (.int, 20),
  .inl (.int, 20),
  .inl (.int, 20),
  .inl (.int, 20),
  .inr (4, [.inr 51, .inr 52]),
  .inl (.int, 4),
  .inl (.long, 120),
  .inl (.int, 12)]
def wdM : List xE := [.inr (8, [.inr 1, .inr 2, .inr 3, .inl .boolean, .inr 4, .inr 5, .inr 6, .inr 7, .inr 8, .inr 9, .inl .int, .inr 10, .inr 11, .inr 12, .inr 13, .inl .int, .inl .int, .inl .int, .inl .int, .inr 14, .inr 15, .inr 16, .inl .int, .inl .int, .inl .int, .inl .int, .inr 17, .inr 18, .inr 19, .inr 20]),
  .inl (.int, 1705),
  .inl (.int, 1705),
  .inl (.int, 1705),
  .inl (.long, 30),
  .inl (.long, 30),
  .inl (.long, 4096),
  .inl (.int, 30),
  .inl (.int, 12),
  .inl (.int, 49152),
  .inl (.int, 10),
  .inl (.int, 10),
  .inl (.int, 10),
  .inl (.int, 10),
  .inl (.int, 120),
  .inl (.int, 12),
  .inl (.int, 80),
  .inl (.int, 4),
  .inl (.int, 24),
  .inl (.long, 120),
  .inl (.char, 49)]
def mX0_begin : xM := (yX0_begin, prog_2_method_2_code, 3, none)
def mX0_copyFrom : xM := (yX0_copyFrom, prog_2_method_3_code, 2, none)
def mX0_isDone : xM := (yX0_isDone, prog_2_method_4_code, 2, some .boolean)
def mX0_lastWorked : xM := (yX0_lastWorked, prog_2_method_5_code, 1, some .int)
def mX0_workPin : xM := (yX0_workPin, prog_2_method_6_code, 6, none)
def mX0_unwork : xM := (yX0_unwork, prog_2_method_7_code, 6, none)
def mX0_goOver : xM := (yX0_goOver, prog_2_method_8_code, 3, none)
def mX0_goBack : xM := (yX0_goBack, prog_2_method_9_code, 3, none)
def mX0_changePlaces : xM := (yX0_changePlaces, prog_2_method_10_code, 4, none)
def mX1_join : xM := (yX1_join, prog_3_method_2_code, 2, none)
def mX1_sortOut : xM := (yX1_sortOut, prog_3_method_3_code, 3, none)
def mX1_mayJoin : xM := (yX1_mayJoin, prog_3_method_4_code, 4, some .boolean)
def mX1_difference : xM := (yX1_difference, prog_3_method_5_code, 3, some .int)
def mX1_bestFrom : xM := (yX1_bestFrom, prog_3_method_6_code, 3, some .int)
def mX1_worthOf : xM := (yX1_worthOf, prog_3_method_7_code, 4, some .int)
def mX1_weigh : xM := (yX1_weigh, prog_3_method_8_code, 4, none)
def mX1_bestOf : xM := (yX1_bestOf, prog_3_method_9_code, 5, some .int)
def mX1_choose : xM := (yX1_choose, prog_3_method_10_code, 4, none)
def mX1_firstOut : xM := (yX1_firstOut, prog_3_method_11_code, 4, some .int)
def mX2_study : xM := (yX2_study, prog_4_method_2_code, 5, none)
def mX2_sortByRow : xM := (yX2_sortByRow, prog_4_method_3_code, 4, none)
def mX2_take : xM := (yX2_take, prog_4_method_4_code, 3, none)
def mX2_neededBy : xM := (yX2_neededBy, prog_4_method_5_code, 6, some .long)
def mX3_begin : xM := (yX3_begin, prog_5_method_2_code, 2, none)
def mX3_copyFrom : xM := (yX3_copyFrom, prog_5_method_3_code, 2, none)
def mX3_isSlot : xM := (yX3_isSlot, prog_5_method_4_code, 2, some .boolean)
def mX3_isPinSlot : xM := (yX3_isPinSlot, prog_5_method_5_code, 2, some .boolean)
def mX3_isPin : xM := (yX3_isPin, prog_5_method_6_code, 2, some .boolean)
def mX3_addPin : xM := (yX3_addPin, prog_5_method_7_code, 5, some .int)
def mX3_fillAtFirst : xM := (yX3_fillAtFirst, prog_5_method_8_code, 4, some .int)
def mX3_turnNumber : xM := (yX3_turnNumber, prog_5_method_9_code, 2, some .int)
def mX3_slotOfTurn : xM := (yX3_slotOfTurn, prog_5_method_10_code, 1, some .int)
def mX3_rowOfTurn : xM := (yX3_rowOfTurn, prog_5_method_11_code, 1, some .int)
def mX3_turnAt : xM := (yX3_turnAt, prog_5_method_12_code, 5, some .int)
def mX3_placeOfTurn : xM := (yX3_placeOfTurn, prog_5_method_13_code, 3, some .int)
def mX3_removeTurn : xM := (yX3_removeTurn, prog_5_method_14_code, 3, none)
def mX3_sortTurns : xM := (yX3_sortTurns, prog_5_method_15_code, 4, none)
def mX3_isFilled : xM := (yX3_isFilled, prog_5_method_16_code, 5, some .boolean)
def mX3_turnsFull : xM := (yX3_turnsFull, prog_5_method_17_code, 2, some .boolean)
def mX3_turnsInto : xM := (yX3_turnsInto, prog_5_method_18_code, 4, some .int)
def mX3_lacksPair : xM := (yX3_lacksPair, prog_5_method_19_code, 4, some .boolean)
def mX3_uppermost : xM := (yX3_uppermost, prog_5_method_20_code, 5, some .int)
def mX3_isAbove : xM := (yX3_isAbove, prog_5_method_21_code, 3, some .boolean)
def mX3_flippedFill : xM := (yX3_flippedFill, prog_5_method_22_code, 3, some .int)
def mX3_flippedTurn : xM := (yX3_flippedTurn, prog_5_method_23_code, 2, some .int)
def mX3_flip : xM := (yX3_flip, prog_5_method_24_code, 2, none)
def mX3_isEven : xM := (yX3_isEven, prog_5_method_25_code, 2, some .boolean)
def mX3_hasLike : xM := (yX3_hasLike, prog_5_method_26_code, 5, some .boolean)
def mX4_isList : xM := (yX4_isList, prog_6_method_2_code, 2, some .boolean)
def mX4_holds : xM := (yX4_holds, prog_6_method_3_code, 2, some .boolean)
def mX4_hasPlace : xM := (yX4_hasPlace, prog_6_method_4_code, 3, some .boolean)
def mX4_begin : xM := (yX4_begin, prog_6_method_5_code, 4, none)
def mX4_put : xM := (yX4_put, prog_6_method_6_code, 5, none)
def mX4_at : xM := (yX4_at, prog_6_method_7_code, 3, some .long)
def mX5_append : xM := (yX5_append, prog_7_method_2_code, 2, some .boolean)
def mX5_read : xM := (yX5_read, prog_7_method_3_code, 2, none)
def mX5_readPart : xM := (yX5_readPart, prog_7_method_4_code, 2, none)
def mX5_readKind : xM := (yX5_readKind, prog_7_method_5_code, 2, some .int)
def mX5_readStitch : xM := (yX5_readStitch, prog_7_method_6_code, 3, some .int)
def mX5_nameOf : xM := (yX5_nameOf, prog_7_method_7_code, 1, some (.object "java/lang/String"))
def mX5_readNumber : xM := (yX5_readNumber, prog_7_method_8_code, 2, some .int)
def mX5_isFigureHere : xM := (yX5_isFigureHere, prog_7_method_9_code, 1, some .boolean)
def mX5_readFigure : xM := (yX5_readFigure, prog_7_method_10_code, 2, some .int)
def mX5_skipWord : xM := (yX5_skipWord, prog_7_method_11_code, 1, none)
def mX5_isWord : xM := (yX5_isWord, prog_7_method_12_code, 4, some .boolean)
def mX5_expect : xM := (yX5_expect, prog_7_method_13_code, 2, none)
def mX6_gather : xM := (yX6_gather, prog_8_method_2_code, 8, some .boolean)
def mX6_amongLeft : xM := (yX6_amongLeft, prog_8_method_3_code, 5, some .int)
def mX6_wholeSet : xM := (yX6_wholeSet, prog_8_method_4_code, 1, some .int)
def mX6_comesNext : xM := (yX6_comesNext, prog_8_method_5_code, 3, some .boolean)
def mX6_markMet : xM := (yX6_markMet, prog_8_method_6_code, 4, none)
def mX6_lawfulOrders : xM := (yX6_lawfulOrders, prog_8_method_7_code, 6, some .long)
def mX6_pinOfOrder : xM := (yX6_pinOfOrder, prog_8_method_8_code, 10, some .int)
def mX6_leastTravel : xM := (yX6_leastTravel, prog_8_method_9_code, 5, some .int)
def mX6_placeOf : xM := (yX6_placeOf, prog_8_method_10_code, 2, some .int)
def mX6_travelBy : xM := (yX6_travelBy, prog_8_method_11_code, 4, some .int)
def mX6_leastFrom : xM := (yX6_leastFrom, prog_8_method_12_code, 6, some .int)
def mX6_pinOfLeast : xM := (yX6_pinOfLeast, prog_8_method_13_code, 8, some .int)
def mX6_firstBy : xM := (yX6_firstBy, prog_8_method_14_code, 5, some .int)
def mX7_loom : xM := (yX7_loom, prog_1_method_2_code, 3, some .int)
def mX7_pin : xM := (yX7_pin, prog_1_method_3_code, 4, some .int)
def mX7_drop : xM := (yX7_drop, prog_1_method_4_code, 1, some .int)
def mX7_stitch : xM := (yX7_stitch, prog_1_method_5_code, 4, some .int)
def mX7_of : xM := (yX7_of, prog_1_method_6_code, 3, some .int)
def mX7_fill : xM := (yX7_fill, prog_1_method_7_code, 3, some .int)
def mX7_turn : xM := (yX7_turn, prog_1_method_8_code, 3, some .int)
def mX7_filled : xM := (yX7_filled, prog_1_method_9_code, 3, some .int)
def mX7_mirror : xM := (yX7_mirror, prog_1_method_10_code, 1, some .int)
def mX7_even : xM := (yX7_even, prog_1_method_11_code, 1, some .int)
def mX7_needs : xM := (yX7_needs, prog_1_method_12_code, 3, some .long)
def mX7_pins : xM := (yX7_pins, prog_1_method_13_code, 2, some .long)
def mX7_deepest : xM := (yX7_deepest, prog_1_method_14_code, 3, some .int)
def mX7_work : xM := (yX7_work, prog_1_method_15_code, 2, some .int)
def mX7_workAll : xM := (yX7_workAll, prog_1_method_16_code, 4, some .int)
def mX7_undo : xM := (yX7_undo, prog_1_method_17_code, 2, some .int)
def mX7_thread : xM := (yX7_thread, prog_1_method_18_code, 3, some .int)
def mX7_where : xM := (yX7_where, prog_1_method_19_code, 3, some .int)
def mX7_overs : xM := (yX7_overs, prog_1_method_20_code, 2, some .int)
def mX7_acts : xM := (yX7_acts, prog_1_method_21_code, 4, some .int)
def mX7_hand : xM := (yX7_hand, prog_1_method_22_code, 3, some .int)
def mX7_orders : xM := (yX7_orders, prog_1_method_23_code, 1, some .long)
def mX7_order : xM := (yX7_order, prog_1_method_24_code, 4, some .int)
def mX7_travel : xM := (yX7_travel, prog_1_method_25_code, 1, some .int)
def mX7_along : xM := (yX7_along, prog_1_method_26_code, 2, some .int)
def mX7_pairs : xM := (yX7_pairs, prog_1_method_27_code, 2, some .int)
def mX7_hang : xM := (yX7_hang, prog_1_method_28_code, 4, some .int)
def mX7_draft : xM := (yX7_draft, prog_1_method_29_code, 3, some .int)
def mX7_paper : xM := (yX7_paper, prog_1_method_30_code, 2, some .int)
def mX7_lay : xM := (yX7_lay, prog_1_method_31_code, 5, some .int)
def mX7_seen : xM := (yX7_seen, prog_1_method_32_code, 6, some .int)
def mX7_feed : xM := (yX7_feed, prog_1_method_33_code, 2, some .int)
def mX7_clear : xM := (yX7_clear, prog_1_method_34_code, 2, some .int)
def mX7_pricking : xM := (yX7_pricking, prog_1_method_35_code, 2, some .int)
def mX7_list : xM := (yX7_list, prog_1_method_36_code, 3, some .int)
def mX7_set : xM := (yX7_set, prog_1_method_37_code, 5, some .int)
def mX7_get : xM := (yX7_get, prog_1_method_38_code, 3, some .long)
def mX7_count : xM := (yX7_count, prog_1_method_39_code, 2, some .int)
def mX7_image : xM := (yX7_image, prog_1_method_40_code, 1, some .int)
def mX7_restore : xM := (yX7_restore, prog_1_method_41_code, 1, some .int)
def mX7_isRow : xM := (yX7_isRow, prog_1_method_42_code, 1, some .boolean)
def mX7_isStitch : xM := (yX7_isStitch, prog_1_method_43_code, 1, some .boolean)
def mX7_isThread : xM := (yX7_isThread, prog_1_method_44_code, 2, some .boolean)
def mX7_pinBit : xM := (yX7_pinBit, prog_1_method_45_code, 1, some .long)
def mX7_hasPin : xM := (yX7_hasPin, prog_1_method_46_code, 3, some .boolean)
def mX7_anyDone : xM := (yX7_anyDone, prog_1_method_47_code, 1, some .boolean)
def mX7_depthOf : xM := (yX7_depthOf, prog_1_method_48_code, 2, some .int)
def mX7_lackingPins : xM := (yX7_lackingPins, prog_1_method_49_code, 4, some .long)
def mX7_readyPins : xM := (yX7_readyPins, prog_1_method_50_code, 6, some .long)
def mX7_workOne : xM := (yX7_workOne, prog_1_method_51_code, 2, none)
def mX7_think : xM := (yX7_think, prog_1_method_52_code, 1, some .boolean)
def mX7_slotAndRow : xM := (yX7_slotAndRow, prog_1_method_53_code, 1, some .int)
def mX7_drawPin : xM := (yX7_drawPin, prog_1_method_54_code, 2, none)
def mX7_wouldBeSeen : xM := (yX7_wouldBeSeen, prog_1_method_55_code, 8, some .boolean)
def mX7_tellPart : xM := (yX7_tellPart, prog_1_method_56_code, 4, some .int)
def mX7_actCount : xM := (yX7_actCount, prog_1_method_57_code, 1, some .int)
def mX7_isCrossAct : xM := (yX7_isCrossAct, prog_1_method_58_code, 2, some .boolean)
def mX7_actsOf : xM := (yX7_actsOf, prog_1_method_59_code, 4, some .int)
def mX8_isIn : xM := (yX8_isIn, prog_10_method_2_code, 6, some .boolean)
def mX8_starts : xM := (yX8_starts, prog_10_method_3_code, 3, none)
def mX8_isPin : xM := (yX8_isPin, prog_10_method_4_code, 2, some .boolean)
def mX8_isSlot : xM := (yX8_isSlot, prog_10_method_5_code, 2, some .boolean)
def mX8_copies : xM := (yX8_copies, prog_10_method_6_code, 3, none)
def mX8_loom : xM := (yX8_loom, prog_10_method_7_code, 3, some .int)
def mX8_shares : xM := (yX8_shares, prog_10_method_8_code, 3, some .boolean)
def mX8_pin : xM := (yX8_pin, prog_10_method_9_code, 5, some .int)
def mX8_drop : xM := (yX8_drop, prog_10_method_10_code, 1, some .int)
def mX8_becomes : xM := (yX8_becomes, prog_10_method_11_code, 4, some .int)
def mX8_stitch : xM := (yX8_stitch, prog_10_method_12_code, 3, some .int)
def mX8_fill : xM := (yX8_fill, prog_10_method_13_code, 3, some .int)
def mX8_turn : xM := (yX8_turn, prog_10_method_14_code, 6, some .int)
def mX8_isFilled : xM := (yX8_isFilled, prog_10_method_15_code, 5, some .boolean)
def mX8_filled : xM := (yX8_filled, prog_10_method_16_code, 3, some .int)
def mX8_mirror : xM := (yX8_mirror, prog_10_method_17_code, 3, some .int)
def mX8_hasPin : xM := (yX8_hasPin, prog_10_method_18_code, 5, some .boolean)
def mX8_hasTurn : xM := (yX8_hasTurn, prog_10_method_19_code, 3, some .boolean)
def mX8_even : xM := (yX8_even, prog_10_method_20_code, 3, some .int)
def mX8_ahead : xM := (yX8_ahead, prog_10_method_21_code, 5, some .int)
def mX8_finds : xM := (yX8_finds, prog_10_method_22_code, 4, none)
def mX8_findsAll : xM := (yX8_findsAll, prog_10_method_23_code, 3, none)
def mX8_lacks : xM := (yX8_lacks, prog_10_method_24_code, 2, some .boolean)
def mX8_done : xM := (yX8_done, prog_10_method_25_code, 4, some .long)
def mX8_isReady : xM := (yX8_isReady, prog_10_method_26_code, 2, some .boolean)
def mX8_of : xM := (yX8_of, prog_10_method_27_code, 3, some .int)
def mX8_needs : xM := (yX8_needs, prog_10_method_28_code, 6, some .long)
def mX8_pins : xM := (yX8_pins, prog_10_method_29_code, 6, some .long)
def mX8_deepest : xM := (yX8_deepest, prog_10_method_30_code, 3, some .int)
def mX8_goes : xM := (yX8_goes, prog_10_method_31_code, 5, none)
def mX8_crosses : xM := (yX8_crosses, prog_10_method_32_code, 3, none)
def mX8_twists : xM := (yX8_twists, prog_10_method_33_code, 3, none)
def mX8_stitches : xM := (yX8_stitches, prog_10_method_34_code, 4, none)
def mX8_works : xM := (yX8_works, prog_10_method_35_code, 4, none)
def mX8_work : xM := (yX8_work, prog_10_method_36_code, 2, some .int)
def mX8_workAll : xM := (yX8_workAll, prog_10_method_37_code, 4, some .int)
def mX8_undo : xM := (yX8_undo, prog_10_method_38_code, 3, some .int)
def mX8_thread : xM := (yX8_thread, prog_10_method_39_code, 3, some .int)
def mX8_isThread : xM := (yX8_isThread, prog_10_method_40_code, 2, some .boolean)
def mX8_where : xM := (yX8_where, prog_10_method_41_code, 3, some .int)
def mX8_overs : xM := (yX8_overs, prog_10_method_42_code, 2, some .int)
def mX8_acts : xM := (yX8_acts, prog_10_method_43_code, 5, some .int)
def mX8_hand : xM := (yX8_hand, prog_10_method_44_code, 2, some .int)
def mX8_areFew : xM := (yX8_areFew, prog_10_method_45_code, 3, some .boolean)
def mX8_mayCome : xM := (yX8_mayCome, prog_10_method_46_code, 4, some .boolean)
def mX8_oneLacks : xM := (yX8_oneLacks, prog_10_method_47_code, 2, some .boolean)
def mX8_goesBack : xM := (yX8_goesBack, prog_10_method_48_code, 8, none)
def mX8_orders : xM := (yX8_orders, prog_10_method_49_code, 1, some .long)
def mX8_order : xM := (yX8_order, prog_10_method_50_code, 10, some .int)
def mX8_farFrom : xM := (yX8_farFrom, prog_10_method_51_code, 4, some .int)
def mX8_leastFrom : xM := (yX8_leastFrom, prog_10_method_52_code, 5, some .int)
def mX8_travel : xM := (yX8_travel, prog_10_method_53_code, 1, some .int)
def mX8_along : xM := (yX8_along, prog_10_method_54_code, 8, some .int)
def mX8_findsTurns : xM := (yX8_findsTurns, prog_10_method_55_code, 3, none)
def mX8_joins : xM := (yX8_joins, prog_10_method_56_code, 6, none)
def mX8_findsPairs : xM := (yX8_findsPairs, prog_10_method_57_code, 1, none)
def mX8_pairs : xM := (yX8_pairs, prog_10_method_58_code, 4, some .int)
def mX8_hang : xM := (yX8_hang, prog_10_method_59_code, 3, some .int)
def mX8_draft : xM := (yX8_draft, prog_10_method_60_code, 4, some .int)
def mX8_paper : xM := (yX8_paper, prog_10_method_61_code, 2, some .int)
def mX8_isList : xM := (yX8_isList, prog_10_method_62_code, 1, some .boolean)
def mX8_lay : xM := (yX8_lay, prog_10_method_63_code, 5, some .int)
def mX8_seen : xM := (yX8_seen, prog_10_method_64_code, 9, some .int)
def mX8_feed : xM := (yX8_feed, prog_10_method_65_code, 2, some .int)
def mX8_clear : xM := (yX8_clear, prog_10_method_66_code, 2, some .int)
def mX8_here : xM := (yX8_here, prog_10_method_67_code, 1, some .int)
def mX8_fails : xM := (yX8_fails, prog_10_method_68_code, 2, none)
def mX8_blank : xM := (yX8_blank, prog_10_method_69_code, 1, none)
def mX8_figures : xM := (yX8_figures, prog_10_method_70_code, 3, some .int)
def mX8_word : xM := (yX8_word, prog_10_method_71_code, 7, some .int)
def mX8_reads : xM := (yX8_reads, prog_10_method_72_code, 3, none)
def mX8_tells : xM := (yX8_tells, prog_10_method_73_code, 2, some .int)
def mX8_pricking : xM := (yX8_pricking, prog_10_method_74_code, 4, some .int)
def mX8_list : xM := (yX8_list, prog_10_method_75_code, 4, some .int)
def mX8_set : xM := (yX8_set, prog_10_method_76_code, 5, some .int)
def mX8_get : xM := (yX8_get, prog_10_method_77_code, 3, some .long)
def mX8_count : xM := (yX8_count, prog_10_method_78_code, 2, some .int)
def mX8_image : xM := (yX8_image, prog_10_method_79_code, 1, some .int)
def mX8_restore : xM := (yX8_restore, prog_10_method_80_code, 1, some .int)
def mJ_bitCount : xM := (yJ6_bitCount_0f7a4, prog_11_method_49_code, 1, some .int)
def mJ_fill : xM := (yJ7_fill_53178, prog_17_method_103_code, 4, none)
def gI (wd : List xE) (d : Nat) (mi : xM) (pc : Nat) (ls : List (Option xV)) (h : xH) (Q : Int → xH → Prop) : Prop := xG wd d mi pc ls [] h (fun r h1 => ∃ n, r = some (.inl n) ∧ Q n h1)
def gL (wd : List xE) (d : Nat) (mi : xM) (pc : Nat) (ls : List (Option xV)) (h : xH) (Q : Int → xH → Prop) : Prop := xG wd d mi pc ls [] h (fun r h1 => ∃ n, r = some (.inr (.inl n)) ∧ Q n h1)
def gV (wd : List xE) (d : Nat) (mi : xM) (pc : Nat) (ls : List (Option xV)) (h : xH) (Q : xH → Prop) : Prop := xG wd d mi pc ls [] h (fun r h1 => r = none ∧ Q h1)
def gR (wd : List xE) (d : Nat) (mi : xM) (pc : Nat) (ls : List (Option xV)) (h : xH) (Q : Nat → xH → Prop) : Prop := xG wd d mi pc ls [] h (fun r h1 => ∃ n, r = some (.inr (.inr (1000 + n))) ∧ Q n h1)
/-- a call -/
def cI (wd : List xE) (d : Nat) (mi : xM) (as : List xV) (h : xH) (Q : Int → xH → Prop) : Prop := gI wd d mi 0 (xent mi.2.2.1 as) h Q
def cL (wd : List xE) (d : Nat) (mi : xM) (as : List xV) (h : xH) (Q : Int → xH → Prop) : Prop := gL wd d mi 0 (xent mi.2.2.1 as) h Q
def cV (wd : List xE) (d : Nat) (mi : xM) (as : List xV) (h : xH) (Q : xH → Prop) : Prop := gV wd d mi 0 (xent mi.2.2.1 as) h Q
def cR (wd : List xE) (d : Nat) (mi : xM) (as : List xV) (h : xH) (Q : Nat → xH → Prop) : Prop := gR wd d mi 0 (xent mi.2.2.1 as) h Q
def cB (wd : List xE) (d : Nat) (mi : xM) (as : List xV) (h : xH) (T F : xH → Prop) : Prop := cI wd d mi as h (fun r h1 => (r = 1 ∧ T h1) ∨ (r = 0 ∧ F h1))
def xle : List (Option xV) → List (Option xV) → Prop
  | [], _ => True
  | none :: r, _ :: s => xle r s
  | none :: _, [] => False
  | some v :: r, o :: s => o = some v ∧ xle r s
  | some _ :: _, [] => False
theorem xle_get : ∀ {l' l : List (Option xV)}, xle l' l → ∀ (k : Nat) (v : xV), l'[k]? = some (some v) → l[k]? = some (some v)
  | [], _, _, k, v, h => by simp at h
  | none :: r, o :: s, hx, 0, v, h => by simp at h
  | none :: r, o :: s, hx, k + 1, v, h => by simp at h ⊢; exact xle_get (l' := r) hx k v h
  | none :: r, [], hx, k, v, h => hx.elim
  | some w :: r, o :: s, hx, 0, v, h => by simp at h ⊢; subst h; exact hx.1
  | some w :: r, o :: s, hx, k + 1, v, h => by simp at h ⊢; exact xle_get (l' := r) hx.2 k v h
  | some w :: r, [], hx, k, v, h => hx.elim
theorem x_lsw2 {a df o0 o1 : Int} (h0 : ¬ a = 0) (h1 : ¬ a = 1) : Op.lookupswitch.offset [(0, o0), (1, o1)] df a = df := by
  simp [Op.lookupswitch.offset, List.find?, Ne.symm h0, Ne.symm h1, h0, h1]
set_option maxRecDepth 20000 in
theorem ac_native : Cond.native arraycopyName ∈ tblG := tblG_m4 168 rfl rfl
set_option maxRecDepth 20000 in
theorem ac_static : Cond.static arraycopyName ∈ tblG := tblG_m4 167 rfl rfl
set_option maxRecDepth 20000 in
theorem ac_init : Cond.initialized "java/lang/System" ∈ tblG := tblG_m1 17 rfl rfl
set_option maxRecDepth 20000 in
theorem M_in : Cond.initialized "java/lang/Math" ∈ tblG := tblG_m1 10 rfl rfl
set_option maxRecDepth 20000 in
theorem MX_st : Cond.static Lib.Math.max.name ∈ tblG := tblG_m2 143 rfl rfl
set_option maxRecDepth 20000 in
theorem MX_cd : Cond.code Lib.Math.max.name Lib.Math.max.code 2 (some .int) ∈ tblG := tblG_m2 144 rfl rfl
set_option maxRecDepth 20000 in
theorem MN_st : Cond.static Lib.Math.min.name ∈ tblG := tblG_m6 37 rfl rfl
set_option maxRecDepth 20000 in
theorem MN_cd : Cond.code Lib.Math.min.name Lib.Math.min.code 2 (some .int) ∈ tblG := tblG_m6 38 rfl rfl
set_option maxRecDepth 20000 in
theorem MA_st : Cond.static Lib.Math.abs.name ∈ tblG := tblG_m2 94 rfl rfl
set_option maxRecDepth 20000 in
theorem MA_cd : Cond.code Lib.Math.abs.name Lib.Math.abs.code 1 (some .int) ∈ tblG := tblG_m2 95 rfl rfl
set_option maxRecDepth 20000 in
theorem iG0 : ∀ w ∈ u_ws RX0 TX0 7, w ∈ tblG := by
  intro w hw
  obtain ⟨k, hk, rfl⟩ := List.mem_map.mp hw
  have hk := List.mem_range.mp hk
  match k, hk with
  | 0, _ => exact tblG_m1 90 rfl rfl
  | 1, _ => exact tblG_m1 92 rfl rfl
  | 2, _ => exact tblG_m1 94 rfl rfl
  | 3, _ => exact tblG_m1 96 rfl rfl
  | 4, _ => exact tblG_m1 98 rfl rfl
  | 5, _ => exact tblG_m1 100 rfl rfl
  | 6, _ => exact tblG_m1 102 rfl rfl
  | k + 7, hk => omega
theorem fp0_2 : xFldP 0 2 .long := ⟨(RX0, TX0, 7), tyX0, rfl, tyX0_ok, nmX0, rfl, by decide +kernel⟩
theorem fp0_3 : xFldP 0 3 .int := ⟨(RX0, TX0, 7), tyX0, rfl, tyX0_ok, nmX0, rfl, by decide +kernel⟩
theorem fp0_6 : xFldP 0 6 .int := ⟨(RX0, TX0, 7), tyX0, rfl, tyX0_ok, nmX0, rfl, by decide +kernel⟩
set_option maxRecDepth 20000 in
theorem iG1 : ∀ w ∈ u_ws RX1 TX1 8, w ∈ tblG := by
  intro w hw
  obtain ⟨k, hk, rfl⟩ := List.mem_map.mp hw
  have hk := List.mem_range.mp hk
  match k, hk with
  | 0, _ => exact tblG_m1 187 rfl rfl
  | 1, _ => exact tblG_m1 189 rfl rfl
  | 2, _ => exact tblG_m1 191 rfl rfl
  | 3, _ => exact tblG_m1 193 rfl rfl
  | 4, _ => exact tblG_m1 195 rfl rfl
  | 5, _ => exact tblG_m1 197 rfl rfl
  | 6, _ => exact tblG_m1 199 rfl rfl
  | 7, _ => exact tblG_m1 201 rfl rfl
  | k + 8, hk => omega
theorem fp1_0 : xFldP 1 0 .int := ⟨(RX1, TX1, 8), tyX1, rfl, tyX1_ok, nmX1, rfl, by decide +kernel⟩
theorem fp1_1 : xFldP 1 1 .int := ⟨(RX1, TX1, 8), tyX1, rfl, tyX1_ok, nmX1, rfl, by decide +kernel⟩
theorem fp1_2 : xFldP 1 2 .int := ⟨(RX1, TX1, 8), tyX1, rfl, tyX1_ok, nmX1, rfl, by decide +kernel⟩
theorem fp1_3 : xFldP 1 3 .int := ⟨(RX1, TX1, 8), tyX1, rfl, tyX1_ok, nmX1, rfl, by decide +kernel⟩
set_option maxRecDepth 20000 in
theorem iG2 : ∀ w ∈ u_ws RX2 TX2 5, w ∈ tblG := by
  intro w hw
  obtain ⟨k, hk, rfl⟩ := List.mem_map.mp hw
  have hk := List.mem_range.mp hk
  match k, hk with
  | 0, _ => exact tblG_m1 120 rfl rfl
  | 1, _ => exact tblG_m1 122 rfl rfl
  | 2, _ => exact tblG_m1 124 rfl rfl
  | 3, _ => exact tblG_m1 126 rfl rfl
  | 4, _ => exact tblG_m1 128 rfl rfl
  | k + 5, hk => omega
set_option maxRecDepth 20000 in
theorem iG3 : ∀ w ∈ u_ws RX3 TX3 8, w ∈ tblG := by
  intro w hw
  obtain ⟨k, hk, rfl⟩ := List.mem_map.mp hw
  have hk := List.mem_range.mp hk
  match k, hk with
  | 0, _ => exact tblG_m1 54 rfl rfl
  | 1, _ => exact tblG_m1 56 rfl rfl
  | 2, _ => exact tblG_m1 58 rfl rfl
  | 3, _ => exact tblG_m1 60 rfl rfl
  | 4, _ => exact tblG_m1 62 rfl rfl
  | 5, _ => exact tblG_m1 64 rfl rfl
  | 6, _ => exact tblG_m1 66 rfl rfl
  | 7, _ => exact tblG_m1 68 rfl rfl
  | k + 8, hk => omega
theorem fp3_0 : xFldP 3 0 .int := ⟨(RX3, TX3, 8), tyX3, rfl, tyX3_ok, nmX3, rfl, by decide +kernel⟩
theorem fp3_1 : xFldP 3 1 .int := ⟨(RX3, TX3, 8), tyX3, rfl, tyX3_ok, nmX3, rfl, by decide +kernel⟩
theorem fp3_2 : xFldP 3 2 .int := ⟨(RX3, TX3, 8), tyX3, rfl, tyX3_ok, nmX3, rfl, by decide +kernel⟩
theorem fp3_6 : xFldP 3 6 .int := ⟨(RX3, TX3, 8), tyX3, rfl, tyX3_ok, nmX3, rfl, by decide +kernel⟩
set_option maxRecDepth 20000 in
theorem iG4 : ∀ w ∈ u_ws RX4 TX4 2, w ∈ tblG := by
  intro w hw
  obtain ⟨k, hk, rfl⟩ := List.mem_map.mp hw
  have hk := List.mem_range.mp hk
  match k, hk with
  | 0, _ => exact tblG_m2 14 rfl rfl
  | 1, _ => exact tblG_m2 16 rfl rfl
  | k + 2, hk => omega
set_option maxRecDepth 20000 in
theorem iG5 : ∀ w ∈ u_ws RX5 TX5 9, w ∈ tblG := by
  intro w hw
  obtain ⟨k, hk, rfl⟩ := List.mem_map.mp hw
  have hk := List.mem_range.mp hk
  match k, hk with
  | 0, _ => exact tblG_m1 226 rfl rfl
  | 1, _ => exact tblG_m1 228 rfl rfl
  | 2, _ => exact tblG_m1 230 rfl rfl
  | 3, _ => exact tblG_m1 232 rfl rfl
  | 4, _ => exact tblG_m1 234 rfl rfl
  | 5, _ => exact tblG_m1 236 rfl rfl
  | 6, _ => exact tblG_m1 238 rfl rfl
  | 7, _ => exact tblG_m2 0 rfl rfl
  | 8, _ => exact tblG_m2 2 rfl rfl
  | k + 9, hk => omega
theorem fp5_1 : xFldP 5 1 .int := ⟨(RX5, TX5, 9), tyX5, rfl, tyX5_ok, nmX5, rfl, by decide +kernel⟩
theorem fp5_2 : xFldP 5 2 .int := ⟨(RX5, TX5, 9), tyX5, rfl, tyX5_ok, nmX5, rfl, by decide +kernel⟩
theorem fp5_3 : xFldP 5 3 .int := ⟨(RX5, TX5, 9), tyX5, rfl, tyX5_ok, nmX5, rfl, by decide +kernel⟩
theorem fp5_4 : xFldP 5 4 .int := ⟨(RX5, TX5, 9), tyX5, rfl, tyX5_ok, nmX5, rfl, by decide +kernel⟩
set_option maxRecDepth 20000 in
theorem iG6 : ∀ w ∈ u_ws RX6 TX6 8, w ∈ tblG := by
  intro w hw
  obtain ⟨k, hk, rfl⟩ := List.mem_map.mp hw
  have hk := List.mem_range.mp hk
  match k, hk with
  | 0, _ => exact tblG_m1 149 rfl rfl
  | 1, _ => exact tblG_m1 151 rfl rfl
  | 2, _ => exact tblG_m1 153 rfl rfl
  | 3, _ => exact tblG_m1 155 rfl rfl
  | 4, _ => exact tblG_m1 157 rfl rfl
  | 5, _ => exact tblG_m1 159 rfl rfl
  | 6, _ => exact tblG_m1 161 rfl rfl
  | 7, _ => exact tblG_m1 163 rfl rfl
  | k + 8, hk => omega
theorem fp6_0 : xFldP 6 0 .int := ⟨(RX6, TX6, 8), tyX6, rfl, tyX6_ok, nmX6, rfl, by decide +kernel⟩
theorem fp6_1 : xFldP 6 1 .boolean := ⟨(RX6, TX6, 8), tyX6, rfl, tyX6_ok, nmX6, rfl, by decide +kernel⟩
set_option maxRecDepth 20000 in
theorem iG7 : ∀ w ∈ u_ws RX7 TX7 13, w ∈ tblG := by
  intro w hw
  obtain ⟨k, hk, rfl⟩ := List.mem_map.mp hw
  have hk := List.mem_range.mp hk
  match k, hk with
  | 0, _ => exact tblG_m2 40 rfl rfl
  | 1, _ => exact tblG_m2 42 rfl rfl
  | 2, _ => exact tblG_m2 44 rfl rfl
  | 3, _ => exact tblG_m2 46 rfl rfl
  | 4, _ => exact tblG_m2 48 rfl rfl
  | 5, _ => exact tblG_m2 50 rfl rfl
  | 6, _ => exact tblG_m2 52 rfl rfl
  | 7, _ => exact tblG_m2 54 rfl rfl
  | 8, _ => exact tblG_m2 56 rfl rfl
  | 9, _ => exact tblG_m2 58 rfl rfl
  | 10, _ => exact tblG_m2 60 rfl rfl
  | 11, _ => exact tblG_m2 62 rfl rfl
  | 12, _ => exact tblG_m2 64 rfl rfl
  | k + 13, hk => omega
theorem fp7_4 : xFldP 7 4 .boolean := ⟨(RX7, TX7, 13), tyX7, rfl, tyX7_ok, nmX7, rfl, by decide +kernel⟩
theorem fp7_12 : xFldP 7 12 .int := ⟨(RX7, TX7, 13), tyX7, rfl, tyX7_ok, nmX7, rfl, by decide +kernel⟩
set_option maxRecDepth 20000 in
theorem iG8 : ∀ w ∈ u_ws RX8 TX8 30, w ∈ tblG := by
  intro w hw
  obtain ⟨k, hk, rfl⟩ := List.mem_map.mp hw
  have hk := List.mem_range.mp hk
  match k, hk with
  | 0, _ => exact tblG_m5 21 rfl rfl
  | 1, _ => exact tblG_m5 23 rfl rfl
  | 2, _ => exact tblG_m5 25 rfl rfl
  | 3, _ => exact tblG_m5 27 rfl rfl
  | 4, _ => exact tblG_m5 29 rfl rfl
  | 5, _ => exact tblG_m5 31 rfl rfl
  | 6, _ => exact tblG_m5 33 rfl rfl
  | 7, _ => exact tblG_m5 35 rfl rfl
  | 8, _ => exact tblG_m5 37 rfl rfl
  | 9, _ => exact tblG_m5 39 rfl rfl
  | 10, _ => exact tblG_m5 41 rfl rfl
  | 11, _ => exact tblG_m5 43 rfl rfl
  | 12, _ => exact tblG_m5 45 rfl rfl
  | 13, _ => exact tblG_m5 47 rfl rfl
  | 14, _ => exact tblG_m5 49 rfl rfl
  | 15, _ => exact tblG_m5 51 rfl rfl
  | 16, _ => exact tblG_m5 53 rfl rfl
  | 17, _ => exact tblG_m5 55 rfl rfl
  | 18, _ => exact tblG_m5 57 rfl rfl
  | 19, _ => exact tblG_m5 59 rfl rfl
  | 20, _ => exact tblG_m5 61 rfl rfl
  | 21, _ => exact tblG_m5 63 rfl rfl
  | 22, _ => exact tblG_m5 65 rfl rfl
  | 23, _ => exact tblG_m5 67 rfl rfl
  | 24, _ => exact tblG_m5 69 rfl rfl
  | 25, _ => exact tblG_m5 71 rfl rfl
  | 26, _ => exact tblG_m5 73 rfl rfl
  | 27, _ => exact tblG_m5 75 rfl rfl
  | 28, _ => exact tblG_m5 77 rfl rfl
  | 29, _ => exact tblG_m5 79 rfl rfl
  | k + 30, hk => omega
theorem fp8_3 : xFldP 8 3 .boolean := ⟨(RX8, TX8, 30), tyX8, rfl, tyX8_ok, nmX8, rfl, by decide +kernel⟩
theorem fp8_10 : xFldP 8 10 .int := ⟨(RX8, TX8, 30), tyX8, rfl, tyX8_ok, nmX8, rfl, by decide +kernel⟩
theorem fp8_15 : xFldP 8 15 .int := ⟨(RX8, TX8, 30), tyX8, rfl, tyX8_ok, nmX8, rfl, by decide +kernel⟩
theorem fp8_16 : xFldP 8 16 .int := ⟨(RX8, TX8, 30), tyX8, rfl, tyX8_ok, nmX8, rfl, by decide +kernel⟩
theorem fp8_17 : xFldP 8 17 .int := ⟨(RX8, TX8, 30), tyX8, rfl, tyX8_ok, nmX8, rfl, by decide +kernel⟩
theorem fp8_18 : xFldP 8 18 .int := ⟨(RX8, TX8, 30), tyX8, rfl, tyX8_ok, nmX8, rfl, by decide +kernel⟩
theorem fp8_22 : xFldP 8 22 .int := ⟨(RX8, TX8, 30), tyX8, rfl, tyX8_ok, nmX8, rfl, by decide +kernel⟩
theorem fp8_23 : xFldP 8 23 .int := ⟨(RX8, TX8, 30), tyX8, rfl, tyX8_ok, nmX8, rfl, by decide +kernel⟩
theorem fp8_24 : xFldP 8 24 .int := ⟨(RX8, TX8, 30), tyX8, rfl, tyX8_ok, nmX8, rfl, by decide +kernel⟩
theorem fp8_25 : xFldP 8 25 .int := ⟨(RX8, TX8, 30), tyX8, rfl, tyX8_ok, nmX8, rfl, by decide +kernel⟩
set_option maxRecDepth 20000 in
theorem f3_9 : xFld "LacePins$Pattern" 9 3 0 := ⟨(RX3, TX3, 8), rfl, by decide, iG3, Or.inl (tblG_m1 32 rfl rfl)⟩
set_option maxRecDepth 20000 in
theorem f7_86 : xFld "LacePins" 86 3 0 := ⟨(RX3, TX3, 8), rfl, by decide, iG3, Or.inr ⟨_, tblN_m1 33 rfl rfl⟩⟩
set_option maxRecDepth 20000 in
theorem f3_15 : xFld "LacePins$Pattern" 15 3 1 := ⟨(RX3, TX3, 8), rfl, by decide, iG3, Or.inl (tblG_m1 34 rfl rfl)⟩
set_option maxRecDepth 20000 in
theorem f7_253 : xFld "LacePins" 253 3 1 := ⟨(RX3, TX3, 8), rfl, by decide, iG3, Or.inr ⟨_, tblN_m1 35 rfl rfl⟩⟩
set_option maxRecDepth 20000 in
theorem f3_18 : xFld "LacePins$Pattern" 18 3 2 := ⟨(RX3, TX3, 8), rfl, by decide, iG3, Or.inl (tblG_m1 36 rfl rfl)⟩
set_option maxRecDepth 20000 in
theorem f6_41 : xFld "LacePins$Thought" 41 3 2 := ⟨(RX3, TX3, 8), rfl, by decide, iG3, Or.inr ⟨_, tblN_m1 37 rfl rfl⟩⟩
set_option maxRecDepth 20000 in
theorem f2_38 : xFld "LacePins$Needs" 38 3 2 := ⟨(RX3, TX3, 8), rfl, by decide, iG3, Or.inr ⟨_, tblN_m1 38 rfl rfl⟩⟩
set_option maxRecDepth 20000 in
theorem f7_107 : xFld "LacePins" 107 3 2 := ⟨(RX3, TX3, 8), rfl, by decide, iG3, Or.inr ⟨_, tblN_m1 39 rfl rfl⟩⟩
set_option maxRecDepth 20000 in
theorem f3_21 : xFld "LacePins$Pattern" 21 3 3 := ⟨(RX3, TX3, 8), rfl, by decide, iG3, Or.inl (tblG_m1 40 rfl rfl)⟩
set_option maxRecDepth 20000 in
theorem f2_51 : xFld "LacePins$Needs" 51 3 3 := ⟨(RX3, TX3, 8), rfl, by decide, iG3, Or.inr ⟨_, tblN_m1 41 rfl rfl⟩⟩
set_option maxRecDepth 20000 in
theorem f7_116 : xFld "LacePins" 116 3 3 := ⟨(RX3, TX3, 8), rfl, by decide, iG3, Or.inr ⟨_, tblN_m1 42 rfl rfl⟩⟩
set_option maxRecDepth 20000 in
theorem f3_25 : xFld "LacePins$Pattern" 25 3 4 := ⟨(RX3, TX3, 8), rfl, by decide, iG3, Or.inl (tblG_m1 43 rfl rfl)⟩
set_option maxRecDepth 20000 in
theorem f2_44 : xFld "LacePins$Needs" 44 3 4 := ⟨(RX3, TX3, 8), rfl, by decide, iG3, Or.inr ⟨_, tblN_m1 44 rfl rfl⟩⟩
set_option maxRecDepth 20000 in
theorem f6_50 : xFld "LacePins$Thought" 50 3 4 := ⟨(RX3, TX3, 8), rfl, by decide, iG3, Or.inr ⟨_, tblN_m1 45 rfl rfl⟩⟩
set_option maxRecDepth 20000 in
theorem f7_119 : xFld "LacePins" 119 3 4 := ⟨(RX3, TX3, 8), rfl, by decide, iG3, Or.inr ⟨_, tblN_m1 46 rfl rfl⟩⟩
set_option maxRecDepth 20000 in
theorem f3_28 : xFld "LacePins$Pattern" 28 3 5 := ⟨(RX3, TX3, 8), rfl, by decide, iG3, Or.inl (tblG_m1 47 rfl rfl)⟩
set_option maxRecDepth 20000 in
theorem f7_113 : xFld "LacePins" 113 3 5 := ⟨(RX3, TX3, 8), rfl, by decide, iG3, Or.inr ⟨_, tblN_m1 48 rfl rfl⟩⟩
set_option maxRecDepth 20000 in
theorem f3_31 : xFld "LacePins$Pattern" 31 3 6 := ⟨(RX3, TX3, 8), rfl, by decide, iG3, Or.inl (tblG_m1 49 rfl rfl)⟩
set_option maxRecDepth 20000 in
theorem f1_47 : xFld "LacePins$Joins" 47 3 6 := ⟨(RX3, TX3, 8), rfl, by decide, iG3, Or.inr ⟨_, tblN_m1 50 rfl rfl⟩⟩
set_option maxRecDepth 20000 in
theorem f7_332 : xFld "LacePins" 332 3 6 := ⟨(RX3, TX3, 8), rfl, by decide, iG3, Or.inr ⟨_, tblN_m1 51 rfl rfl⟩⟩
set_option maxRecDepth 20000 in
theorem f3_34 : xFld "LacePins$Pattern" 34 3 7 := ⟨(RX3, TX3, 8), rfl, by decide, iG3, Or.inl (tblG_m1 52 rfl rfl)⟩
set_option maxRecDepth 20000 in
theorem f1_56 : xFld "LacePins$Joins" 56 3 7 := ⟨(RX3, TX3, 8), rfl, by decide, iG3, Or.inr ⟨_, tblN_m1 53 rfl rfl⟩⟩
set_option maxRecDepth 20000 in
theorem f0_9 : xFld "LacePins$Bench" 9 0 0 := ⟨(RX0, TX0, 7), rfl, by decide, iG0, Or.inl (tblG_m1 78 rfl rfl)⟩
set_option maxRecDepth 20000 in
theorem f7_211 : xFld "LacePins" 211 0 0 := ⟨(RX0, TX0, 7), rfl, by decide, iG0, Or.inr ⟨_, tblN_m1 79 rfl rfl⟩⟩
set_option maxRecDepth 20000 in
theorem f0_15 : xFld "LacePins$Bench" 15 0 1 := ⟨(RX0, TX0, 7), rfl, by decide, iG0, Or.inl (tblG_m1 80 rfl rfl)⟩
set_option maxRecDepth 20000 in
theorem f7_217 : xFld "LacePins" 217 0 1 := ⟨(RX0, TX0, 7), rfl, by decide, iG0, Or.inr ⟨_, tblN_m1 81 rfl rfl⟩⟩
set_option maxRecDepth 20000 in
theorem f0_18 : xFld "LacePins$Bench" 18 0 2 := ⟨(RX0, TX0, 7), rfl, by decide, iG0, Or.inl (tblG_m1 82 rfl rfl)⟩
set_option maxRecDepth 20000 in
theorem f7_177 : xFld "LacePins" 177 0 2 := ⟨(RX0, TX0, 7), rfl, by decide, iG0, Or.inr ⟨_, tblN_m1 83 rfl rfl⟩⟩
set_option maxRecDepth 20000 in
theorem f0_22 : xFld "LacePins$Bench" 22 0 3 := ⟨(RX0, TX0, 7), rfl, by decide, iG0, Or.inl (tblG_m1 84 rfl rfl)⟩
set_option maxRecDepth 20000 in
theorem f7_196 : xFld "LacePins" 196 0 3 := ⟨(RX0, TX0, 7), rfl, by decide, iG0, Or.inr ⟨_, tblN_m1 85 rfl rfl⟩⟩
set_option maxRecDepth 20000 in
theorem f0_26 : xFld "LacePins$Bench" 26 0 4 := ⟨(RX0, TX0, 7), rfl, by decide, iG0, Or.inl (tblG_m1 86 rfl rfl)⟩
set_option maxRecDepth 20000 in
theorem f0_29 : xFld "LacePins$Bench" 29 0 5 := ⟨(RX0, TX0, 7), rfl, by decide, iG0, Or.inl (tblG_m1 87 rfl rfl)⟩
set_option maxRecDepth 20000 in
theorem f0_32 : xFld "LacePins$Bench" 32 0 6 := ⟨(RX0, TX0, 7), rfl, by decide, iG0, Or.inl (tblG_m1 88 rfl rfl)⟩
set_option maxRecDepth 20000 in
theorem f7_223 : xFld "LacePins" 223 0 6 := ⟨(RX0, TX0, 7), rfl, by decide, iG0, Or.inr ⟨_, tblN_m1 89 rfl rfl⟩⟩
set_option maxRecDepth 20000 in
theorem f2_9 : xFld "LacePins$Needs" 9 2 0 := ⟨(RX2, TX2, 5), rfl, by decide, iG2, Or.inl (tblG_m1 111 rfl rfl)⟩
set_option maxRecDepth 20000 in
theorem f7_159 : xFld "LacePins" 159 2 0 := ⟨(RX2, TX2, 5), rfl, by decide, iG2, Or.inr ⟨_, tblN_m1 112 rfl rfl⟩⟩
set_option maxRecDepth 20000 in
theorem f2_15 : xFld "LacePins$Needs" 15 2 1 := ⟨(RX2, TX2, 5), rfl, by decide, iG2, Or.inl (tblG_m1 113 rfl rfl)⟩
set_option maxRecDepth 20000 in
theorem f6_53 : xFld "LacePins$Thought" 53 2 1 := ⟨(RX2, TX2, 5), rfl, by decide, iG2, Or.inr ⟨_, tblN_m1 114 rfl rfl⟩⟩
set_option maxRecDepth 20000 in
theorem f7_163 : xFld "LacePins" 163 2 1 := ⟨(RX2, TX2, 5), rfl, by decide, iG2, Or.inr ⟨_, tblN_m1 115 rfl rfl⟩⟩
set_option maxRecDepth 20000 in
theorem f2_18 : xFld "LacePins$Needs" 18 2 2 := ⟨(RX2, TX2, 5), rfl, by decide, iG2, Or.inl (tblG_m1 116 rfl rfl)⟩
set_option maxRecDepth 20000 in
theorem f7_181 : xFld "LacePins" 181 2 2 := ⟨(RX2, TX2, 5), rfl, by decide, iG2, Or.inr ⟨_, tblN_m1 117 rfl rfl⟩⟩
set_option maxRecDepth 20000 in
theorem f2_22 : xFld "LacePins$Needs" 22 2 3 := ⟨(RX2, TX2, 5), rfl, by decide, iG2, Or.inl (tblG_m1 118 rfl rfl)⟩
set_option maxRecDepth 20000 in
theorem f2_25 : xFld "LacePins$Needs" 25 2 4 := ⟨(RX2, TX2, 5), rfl, by decide, iG2, Or.inl (tblG_m1 119 rfl rfl)⟩
set_option maxRecDepth 20000 in
theorem f6_9 : xFld "LacePins$Thought" 9 6 0 := ⟨(RX6, TX6, 8), rfl, by decide, iG6, Or.inl (tblG_m1 139 rfl rfl)⟩
set_option maxRecDepth 20000 in
theorem f7_234 : xFld "LacePins" 234 6 0 := ⟨(RX6, TX6, 8), rfl, by decide, iG6, Or.inr ⟨_, tblN_m1 140 rfl rfl⟩⟩
set_option maxRecDepth 20000 in
theorem f6_15 : xFld "LacePins$Thought" 15 6 1 := ⟨(RX6, TX6, 8), rfl, by decide, iG6, Or.inl (tblG_m1 141 rfl rfl)⟩
set_option maxRecDepth 20000 in
theorem f7_241 : xFld "LacePins" 241 6 1 := ⟨(RX6, TX6, 8), rfl, by decide, iG6, Or.inr ⟨_, tblN_m1 142 rfl rfl⟩⟩
set_option maxRecDepth 20000 in
theorem f6_19 : xFld "LacePins$Thought" 19 6 2 := ⟨(RX6, TX6, 8), rfl, by decide, iG6, Or.inl (tblG_m1 143 rfl rfl)⟩
set_option maxRecDepth 20000 in
theorem f6_23 : xFld "LacePins$Thought" 23 6 3 := ⟨(RX6, TX6, 8), rfl, by decide, iG6, Or.inl (tblG_m1 144 rfl rfl)⟩
set_option maxRecDepth 20000 in
theorem f6_26 : xFld "LacePins$Thought" 26 6 4 := ⟨(RX6, TX6, 8), rfl, by decide, iG6, Or.inl (tblG_m1 145 rfl rfl)⟩
set_option maxRecDepth 20000 in
theorem f6_29 : xFld "LacePins$Thought" 29 6 5 := ⟨(RX6, TX6, 8), rfl, by decide, iG6, Or.inl (tblG_m1 146 rfl rfl)⟩
set_option maxRecDepth 20000 in
theorem f6_33 : xFld "LacePins$Thought" 33 6 6 := ⟨(RX6, TX6, 8), rfl, by decide, iG6, Or.inl (tblG_m1 147 rfl rfl)⟩
set_option maxRecDepth 20000 in
theorem f6_38 : xFld "LacePins$Thought" 38 6 7 := ⟨(RX6, TX6, 8), rfl, by decide, iG6, Or.inl (tblG_m1 148 rfl rfl)⟩
set_option maxRecDepth 20000 in
theorem f1_9 : xFld "LacePins$Joins" 9 1 0 := ⟨(RX1, TX1, 8), rfl, by decide, iG1, Or.inl (tblG_m1 173 rfl rfl)⟩
set_option maxRecDepth 20000 in
theorem f7_261 : xFld "LacePins" 261 1 0 := ⟨(RX1, TX1, 8), rfl, by decide, iG1, Or.inr ⟨_, tblN_m1 174 rfl rfl⟩⟩
set_option maxRecDepth 20000 in
theorem f1_15 : xFld "LacePins$Joins" 15 1 1 := ⟨(RX1, TX1, 8), rfl, by decide, iG1, Or.inl (tblG_m1 175 rfl rfl)⟩
set_option maxRecDepth 20000 in
theorem f1_18 : xFld "LacePins$Joins" 18 1 2 := ⟨(RX1, TX1, 8), rfl, by decide, iG1, Or.inl (tblG_m1 176 rfl rfl)⟩
set_option maxRecDepth 20000 in
theorem f7_264 : xFld "LacePins" 264 1 2 := ⟨(RX1, TX1, 8), rfl, by decide, iG1, Or.inr ⟨_, tblN_m1 177 rfl rfl⟩⟩
set_option maxRecDepth 20000 in
theorem f1_21 : xFld "LacePins$Joins" 21 1 3 := ⟨(RX1, TX1, 8), rfl, by decide, iG1, Or.inl (tblG_m1 178 rfl rfl)⟩
set_option maxRecDepth 20000 in
theorem f7_267 : xFld "LacePins" 267 1 3 := ⟨(RX1, TX1, 8), rfl, by decide, iG1, Or.inr ⟨_, tblN_m1 179 rfl rfl⟩⟩
set_option maxRecDepth 20000 in
theorem f1_24 : xFld "LacePins$Joins" 24 1 4 := ⟨(RX1, TX1, 8), rfl, by decide, iG1, Or.inl (tblG_m1 180 rfl rfl)⟩
set_option maxRecDepth 20000 in
theorem f7_270 : xFld "LacePins" 270 1 4 := ⟨(RX1, TX1, 8), rfl, by decide, iG1, Or.inr ⟨_, tblN_m1 181 rfl rfl⟩⟩
set_option maxRecDepth 20000 in
theorem f1_28 : xFld "LacePins$Joins" 28 1 5 := ⟨(RX1, TX1, 8), rfl, by decide, iG1, Or.inl (tblG_m1 182 rfl rfl)⟩
set_option maxRecDepth 20000 in
theorem f7_279 : xFld "LacePins" 279 1 5 := ⟨(RX1, TX1, 8), rfl, by decide, iG1, Or.inr ⟨_, tblN_m1 183 rfl rfl⟩⟩
set_option maxRecDepth 20000 in
theorem f1_31 : xFld "LacePins$Joins" 31 1 6 := ⟨(RX1, TX1, 8), rfl, by decide, iG1, Or.inl (tblG_m1 184 rfl rfl)⟩
set_option maxRecDepth 20000 in
theorem f7_276 : xFld "LacePins" 276 1 6 := ⟨(RX1, TX1, 8), rfl, by decide, iG1, Or.inr ⟨_, tblN_m1 185 rfl rfl⟩⟩
set_option maxRecDepth 20000 in
theorem f1_34 : xFld "LacePins$Joins" 34 1 7 := ⟨(RX1, TX1, 8), rfl, by decide, iG1, Or.inl (tblG_m1 186 rfl rfl)⟩
set_option maxRecDepth 20000 in
theorem f5_9 : xFld "LacePins$Tape" 9 5 0 := ⟨(RX5, TX5, 9), rfl, by decide, iG5, Or.inl (tblG_m1 210 rfl rfl)⟩
set_option maxRecDepth 20000 in
theorem f5_15 : xFld "LacePins$Tape" 15 5 1 := ⟨(RX5, TX5, 9), rfl, by decide, iG5, Or.inl (tblG_m1 211 rfl rfl)⟩
set_option maxRecDepth 20000 in
theorem f7_305 : xFld "LacePins" 305 5 1 := ⟨(RX5, TX5, 9), rfl, by decide, iG5, Or.inr ⟨_, tblN_m1 212 rfl rfl⟩⟩
set_option maxRecDepth 20000 in
theorem f5_19 : xFld "LacePins$Tape" 19 5 2 := ⟨(RX5, TX5, 9), rfl, by decide, iG5, Or.inl (tblG_m1 213 rfl rfl)⟩
set_option maxRecDepth 20000 in
theorem f5_22 : xFld "LacePins$Tape" 22 5 3 := ⟨(RX5, TX5, 9), rfl, by decide, iG5, Or.inl (tblG_m1 214 rfl rfl)⟩
set_option maxRecDepth 20000 in
theorem f7_311 : xFld "LacePins" 311 5 3 := ⟨(RX5, TX5, 9), rfl, by decide, iG5, Or.inr ⟨_, tblN_m1 215 rfl rfl⟩⟩
set_option maxRecDepth 20000 in
theorem f5_25 : xFld "LacePins$Tape" 25 5 4 := ⟨(RX5, TX5, 9), rfl, by decide, iG5, Or.inl (tblG_m1 216 rfl rfl)⟩
set_option maxRecDepth 20000 in
theorem f7_317 : xFld "LacePins" 317 5 4 := ⟨(RX5, TX5, 9), rfl, by decide, iG5, Or.inr ⟨_, tblN_m1 217 rfl rfl⟩⟩
set_option maxRecDepth 20000 in
theorem f5_28 : xFld "LacePins$Tape" 28 5 5 := ⟨(RX5, TX5, 9), rfl, by decide, iG5, Or.inl (tblG_m1 218 rfl rfl)⟩
set_option maxRecDepth 20000 in
theorem f7_367 : xFld "LacePins" 367 5 5 := ⟨(RX5, TX5, 9), rfl, by decide, iG5, Or.inr ⟨_, tblN_m1 219 rfl rfl⟩⟩
set_option maxRecDepth 20000 in
theorem f5_31 : xFld "LacePins$Tape" 31 5 6 := ⟨(RX5, TX5, 9), rfl, by decide, iG5, Or.inl (tblG_m1 220 rfl rfl)⟩
set_option maxRecDepth 20000 in
theorem f7_361 : xFld "LacePins" 361 5 6 := ⟨(RX5, TX5, 9), rfl, by decide, iG5, Or.inr ⟨_, tblN_m1 221 rfl rfl⟩⟩
set_option maxRecDepth 20000 in
theorem f5_34 : xFld "LacePins$Tape" 34 5 7 := ⟨(RX5, TX5, 9), rfl, by decide, iG5, Or.inl (tblG_m1 222 rfl rfl)⟩
set_option maxRecDepth 20000 in
theorem f7_364 : xFld "LacePins" 364 5 7 := ⟨(RX5, TX5, 9), rfl, by decide, iG5, Or.inr ⟨_, tblN_m1 223 rfl rfl⟩⟩
set_option maxRecDepth 20000 in
theorem f5_37 : xFld "LacePins$Tape" 37 5 8 := ⟨(RX5, TX5, 9), rfl, by decide, iG5, Or.inl (tblG_m1 224 rfl rfl)⟩
set_option maxRecDepth 20000 in
theorem f7_370 : xFld "LacePins" 370 5 8 := ⟨(RX5, TX5, 9), rfl, by decide, iG5, Or.inr ⟨_, tblN_m1 225 rfl rfl⟩⟩
set_option maxRecDepth 20000 in
theorem f4_11 : xFld "LacePins$Rows" 11 4 0 := ⟨(RX4, TX4, 2), rfl, by decide, iG4, Or.inl (tblG_m2 11 rfl rfl)⟩
set_option maxRecDepth 20000 in
theorem f7_291 : xFld "LacePins" 291 4 0 := ⟨(RX4, TX4, 2), rfl, by decide, iG4, Or.inr ⟨_, tblN_m2 12 rfl rfl⟩⟩
set_option maxRecDepth 20000 in
theorem f4_15 : xFld "LacePins$Rows" 15 4 1 := ⟨(RX4, TX4, 2), rfl, by decide, iG4, Or.inl (tblG_m2 13 rfl rfl)⟩
set_option maxRecDepth 20000 in
theorem f7_12 : xFld "LacePins" 12 7 0 := ⟨(RX7, TX7, 13), rfl, by decide, iG7, Or.inl (tblG_m2 27 rfl rfl)⟩
set_option maxRecDepth 20000 in
theorem f7_21 : xFld "LacePins" 21 7 1 := ⟨(RX7, TX7, 13), rfl, by decide, iG7, Or.inl (tblG_m2 28 rfl rfl)⟩
set_option maxRecDepth 20000 in
theorem f7_25 : xFld "LacePins" 25 7 2 := ⟨(RX7, TX7, 13), rfl, by decide, iG7, Or.inl (tblG_m2 29 rfl rfl)⟩
set_option maxRecDepth 20000 in
theorem f7_28 : xFld "LacePins" 28 7 3 := ⟨(RX7, TX7, 13), rfl, by decide, iG7, Or.inl (tblG_m2 30 rfl rfl)⟩
set_option maxRecDepth 20000 in
theorem f7_31 : xFld "LacePins" 31 7 4 := ⟨(RX7, TX7, 13), rfl, by decide, iG7, Or.inl (tblG_m2 31 rfl rfl)⟩
set_option maxRecDepth 20000 in
theorem f7_35 : xFld "LacePins" 35 7 5 := ⟨(RX7, TX7, 13), rfl, by decide, iG7, Or.inl (tblG_m2 32 rfl rfl)⟩
set_option maxRecDepth 20000 in
theorem f7_41 : xFld "LacePins" 41 7 6 := ⟨(RX7, TX7, 13), rfl, by decide, iG7, Or.inl (tblG_m2 33 rfl rfl)⟩
set_option maxRecDepth 20000 in
theorem f7_48 : xFld "LacePins" 48 7 7 := ⟨(RX7, TX7, 13), rfl, by decide, iG7, Or.inl (tblG_m2 34 rfl rfl)⟩
set_option maxRecDepth 20000 in
theorem f7_55 : xFld "LacePins" 55 7 8 := ⟨(RX7, TX7, 13), rfl, by decide, iG7, Or.inl (tblG_m2 35 rfl rfl)⟩
set_option maxRecDepth 20000 in
theorem f7_62 : xFld "LacePins" 62 7 9 := ⟨(RX7, TX7, 13), rfl, by decide, iG7, Or.inl (tblG_m2 36 rfl rfl)⟩
set_option maxRecDepth 20000 in
theorem f7_69 : xFld "LacePins" 69 7 10 := ⟨(RX7, TX7, 13), rfl, by decide, iG7, Or.inl (tblG_m2 37 rfl rfl)⟩
set_option maxRecDepth 20000 in
theorem f7_73 : xFld "LacePins" 73 7 11 := ⟨(RX7, TX7, 13), rfl, by decide, iG7, Or.inl (tblG_m2 38 rfl rfl)⟩
set_option maxRecDepth 20000 in
theorem f7_77 : xFld "LacePins" 77 7 12 := ⟨(RX7, TX7, 13), rfl, by decide, iG7, Or.inl (tblG_m2 39 rfl rfl)⟩
set_option maxRecDepth 20000 in
theorem f8_11 : xFld "LacePinsModel" 11 8 0 := ⟨(RX8, TX8, 30), rfl, by decide, iG8, Or.inl (tblG_m4 231 rfl rfl)⟩
set_option maxRecDepth 20000 in
theorem f8_15 : xFld "LacePinsModel" 15 8 1 := ⟨(RX8, TX8, 30), rfl, by decide, iG8, Or.inl (tblG_m4 232 rfl rfl)⟩
set_option maxRecDepth 20000 in
theorem f8_18 : xFld "LacePinsModel" 18 8 2 := ⟨(RX8, TX8, 30), rfl, by decide, iG8, Or.inl (tblG_m4 233 rfl rfl)⟩
set_option maxRecDepth 20000 in
theorem f8_275 : xFld "LacePinsModel" 275 8 3 := ⟨(RX8, TX8, 30), rfl, by decide, iG8, Or.inl (tblG_m4 234 rfl rfl)⟩
set_option maxRecDepth 20000 in
theorem f8_21 : xFld "LacePinsModel" 21 8 4 := ⟨(RX8, TX8, 30), rfl, by decide, iG8, Or.inl (tblG_m4 235 rfl rfl)⟩
set_option maxRecDepth 20000 in
theorem f8_25 : xFld "LacePinsModel" 25 8 5 := ⟨(RX8, TX8, 30), rfl, by decide, iG8, Or.inl (tblG_m4 236 rfl rfl)⟩
set_option maxRecDepth 20000 in
theorem f8_28 : xFld "LacePinsModel" 28 8 6 := ⟨(RX8, TX8, 30), rfl, by decide, iG8, Or.inl (tblG_m4 237 rfl rfl)⟩
set_option maxRecDepth 20000 in
theorem f8_31 : xFld "LacePinsModel" 31 8 7 := ⟨(RX8, TX8, 30), rfl, by decide, iG8, Or.inl (tblG_m4 238 rfl rfl)⟩
set_option maxRecDepth 20000 in
theorem f8_34 : xFld "LacePinsModel" 34 8 8 := ⟨(RX8, TX8, 30), rfl, by decide, iG8, Or.inl (tblG_m4 239 rfl rfl)⟩
set_option maxRecDepth 20000 in
theorem f8_38 : xFld "LacePinsModel" 38 8 9 := ⟨(RX8, TX8, 30), rfl, by decide, iG8, Or.inl (tblG_m5 0 rfl rfl)⟩
set_option maxRecDepth 20000 in
theorem f8_164 : xFld "LacePinsModel" 164 8 10 := ⟨(RX8, TX8, 30), rfl, by decide, iG8, Or.inl (tblG_m5 1 rfl rfl)⟩
set_option maxRecDepth 20000 in
theorem f8_41 : xFld "LacePinsModel" 41 8 11 := ⟨(RX8, TX8, 30), rfl, by decide, iG8, Or.inl (tblG_m5 2 rfl rfl)⟩
set_option maxRecDepth 20000 in
theorem f8_44 : xFld "LacePinsModel" 44 8 12 := ⟨(RX8, TX8, 30), rfl, by decide, iG8, Or.inl (tblG_m5 3 rfl rfl)⟩
set_option maxRecDepth 20000 in
theorem f8_47 : xFld "LacePinsModel" 47 8 13 := ⟨(RX8, TX8, 30), rfl, by decide, iG8, Or.inl (tblG_m5 4 rfl rfl)⟩
set_option maxRecDepth 20000 in
theorem f8_50 : xFld "LacePinsModel" 50 8 14 := ⟨(RX8, TX8, 30), rfl, by decide, iG8, Or.inl (tblG_m5 5 rfl rfl)⟩
set_option maxRecDepth 20000 in
theorem f8_198 : xFld "LacePinsModel" 198 8 15 := ⟨(RX8, TX8, 30), rfl, by decide, iG8, Or.inl (tblG_m5 6 rfl rfl)⟩
set_option maxRecDepth 20000 in
theorem f8_201 : xFld "LacePinsModel" 201 8 16 := ⟨(RX8, TX8, 30), rfl, by decide, iG8, Or.inl (tblG_m5 7 rfl rfl)⟩
set_option maxRecDepth 20000 in
theorem f8_204 : xFld "LacePinsModel" 204 8 17 := ⟨(RX8, TX8, 30), rfl, by decide, iG8, Or.inl (tblG_m5 8 rfl rfl)⟩
set_option maxRecDepth 20000 in
theorem f8_207 : xFld "LacePinsModel" 207 8 18 := ⟨(RX8, TX8, 30), rfl, by decide, iG8, Or.inl (tblG_m5 9 rfl rfl)⟩
set_option maxRecDepth 20000 in
theorem f8_53 : xFld "LacePinsModel" 53 8 19 := ⟨(RX8, TX8, 30), rfl, by decide, iG8, Or.inl (tblG_m5 10 rfl rfl)⟩
set_option maxRecDepth 20000 in
theorem f8_56 : xFld "LacePinsModel" 56 8 20 := ⟨(RX8, TX8, 30), rfl, by decide, iG8, Or.inl (tblG_m5 11 rfl rfl)⟩
set_option maxRecDepth 20000 in
theorem f8_59 : xFld "LacePinsModel" 59 8 21 := ⟨(RX8, TX8, 30), rfl, by decide, iG8, Or.inl (tblG_m5 12 rfl rfl)⟩
set_option maxRecDepth 20000 in
theorem f8_230 : xFld "LacePinsModel" 230 8 22 := ⟨(RX8, TX8, 30), rfl, by decide, iG8, Or.inl (tblG_m5 13 rfl rfl)⟩
set_option maxRecDepth 20000 in
theorem f8_220 : xFld "LacePinsModel" 220 8 23 := ⟨(RX8, TX8, 30), rfl, by decide, iG8, Or.inl (tblG_m5 14 rfl rfl)⟩
set_option maxRecDepth 20000 in
theorem f8_233 : xFld "LacePinsModel" 233 8 24 := ⟨(RX8, TX8, 30), rfl, by decide, iG8, Or.inl (tblG_m5 15 rfl rfl)⟩
set_option maxRecDepth 20000 in
theorem f8_236 : xFld "LacePinsModel" 236 8 25 := ⟨(RX8, TX8, 30), rfl, by decide, iG8, Or.inl (tblG_m5 16 rfl rfl)⟩
set_option maxRecDepth 20000 in
theorem f8_62 : xFld "LacePinsModel" 62 8 26 := ⟨(RX8, TX8, 30), rfl, by decide, iG8, Or.inl (tblG_m5 17 rfl rfl)⟩
set_option maxRecDepth 20000 in
theorem f8_65 : xFld "LacePinsModel" 65 8 27 := ⟨(RX8, TX8, 30), rfl, by decide, iG8, Or.inl (tblG_m5 18 rfl rfl)⟩
set_option maxRecDepth 20000 in
theorem f8_68 : xFld "LacePinsModel" 68 8 28 := ⟨(RX8, TX8, 30), rfl, by decide, iG8, Or.inl (tblG_m5 19 rfl rfl)⟩
set_option maxRecDepth 20000 in
theorem f8_71 : xFld "LacePinsModel" 71 8 29 := ⟨(RX8, TX8, 30), rfl, by decide, iG8, Or.inl (tblG_m5 20 rfl rfl)⟩
set_option maxRecDepth 20000 in
theorem lk7_81 {mi : xM} (h : mi.1.cls = "LacePins") : xLink mi mX3_begin 1 81 := ⟨tblG_m2 22 rfl rfl, tblG_m1 2 rfl rfl, by decide +kernel, by decide, ⟨by decide +kernel, by decide +kernel, by decide +kernel⟩, by rw [h]; exact tblG_m2 19 rfl rfl⟩
set_option maxRecDepth 20000 in
theorem lk7_85 {mi : xM} (h : mi.1.cls = "LacePins") : xLink mi mX0_begin 1 85 := ⟨tblG_m2 26 rfl rfl, tblG_m1 3 rfl rfl, by decide +kernel, by decide, ⟨by decide +kernel, by decide +kernel, by decide +kernel⟩, by rw [h]; exact tblG_m2 23 rfl rfl⟩
set_option maxRecDepth 20000 in
theorem lk7_89 {mi : xM} (h : mi.1.cls = "LacePins") : xLink mi mX7_isRow 1 89 := ⟨tblG_m2 77 rfl rfl, tblG_m1 1 rfl rfl, by decide +kernel, by decide, ⟨by decide +kernel, by decide +kernel, by decide +kernel⟩, by rw [h]; exact tblG_m2 75 rfl rfl⟩
set_option maxRecDepth 20000 in
theorem lk7_93 {mi : xM} (h : mi.1.cls = "LacePins") : xLink mi mX3_isPinSlot 1 93 := ⟨tblG_m2 81 rfl rfl, tblG_m1 2 rfl rfl, by decide +kernel, by decide, ⟨by decide +kernel, by decide +kernel, by decide +kernel⟩, by rw [h]; exact tblG_m2 78 rfl rfl⟩
set_option maxRecDepth 20000 in
theorem lk7_96 {mi : xM} (h : mi.1.cls = "LacePins") : xLink mi mX7_isStitch 1 96 := ⟨tblG_m2 84 rfl rfl, tblG_m1 1 rfl rfl, by decide +kernel, by decide, ⟨by decide +kernel, by decide +kernel, by decide +kernel⟩, by rw [h]; exact tblG_m2 82 rfl rfl⟩
set_option maxRecDepth 20000 in
theorem lk7_99 {mi : xM} (h : mi.1.cls = "LacePins") : xLink mi mX7_anyDone 0 99 := ⟨tblG_m2 88 rfl rfl, tblG_m1 1 rfl rfl, by decide +kernel, by decide, ⟨by decide +kernel, by decide +kernel, by decide +kernel⟩, by rw [h]; exact tblG_m2 85 rfl rfl⟩
set_option maxRecDepth 20000 in
theorem lk7_103 {mi : xM} (h : mi.1.cls = "LacePins") : xLink mi mX3_addPin 3 103 := ⟨tblG_m2 92 rfl rfl, tblG_m1 2 rfl rfl, by decide +kernel, by decide, ⟨by decide +kernel, by decide +kernel, by decide +kernel⟩, by rw [h]; exact tblG_m2 89 rfl rfl⟩
set_option maxRecDepth 20000 in
theorem lk7_110 {mi : xM} (h : mi.1.cls = "LacePins") : xLink mi mX3_isPin 1 110 := ⟨tblG_m2 107 rfl rfl, tblG_m1 2 rfl rfl, by decide +kernel, by decide, ⟨by decide +kernel, by decide +kernel, by decide +kernel⟩, by rw [h]; exact tblG_m2 104 rfl rfl⟩
set_option maxRecDepth 20000 in
theorem lk7_122 {mi : xM} (h : mi.1.cls = "LacePins") : xLink mi mX0_isDone 1 122 := ⟨tblG_m2 115 rfl rfl, tblG_m1 3 rfl rfl, by decide +kernel, by decide, ⟨by decide +kernel, by decide +kernel, by decide +kernel⟩, by rw [h]; exact tblG_m2 112 rfl rfl⟩
set_option maxRecDepth 20000 in
theorem lk0_41 {mi : xM} (h : mi.1.cls = "LacePins$Bench") : xLinkN mi mX7_hasPin 2 41 := ⟨tblG_m2 118 rfl rfl, tblG_m1 1 rfl rfl, by decide +kernel, by decide, ⟨by decide +kernel, by decide +kernel, by decide +kernel⟩, _, by rw [h]; exact tblN_m2 116 rfl rfl⟩
set_option maxRecDepth 20000 in
theorem lk7_342 {mi : xM} (h : mi.1.cls = "LacePins") : xLink mi mX7_pinBit 1 342 := ⟨tblG_m2 121 rfl rfl, tblG_m1 1 rfl rfl, by decide +kernel, by decide, ⟨by decide +kernel, by decide +kernel, by decide +kernel⟩, by rw [h]; exact tblG_m2 119 rfl rfl⟩
set_option maxRecDepth 20000 in
theorem lk7_125 {mi : xM} (h : mi.1.cls = "LacePins") : xLink mi mX7_depthOf 1 125 := ⟨tblG_m2 125 rfl rfl, tblG_m1 1 rfl rfl, by decide +kernel, by decide, ⟨by decide +kernel, by decide +kernel, by decide +kernel⟩, by rw [h]; exact tblG_m2 122 rfl rfl⟩
set_option maxRecDepth 20000 in
theorem lk7_155 {mi : xM} (h : mi.1.cls = "LacePins") : xLink mi mX2_study 1 155 := ⟨tblG_m2 129 rfl rfl, tblG_m1 4 rfl rfl, by decide +kernel, by decide, ⟨by decide +kernel, by decide +kernel, by decide +kernel⟩, by rw [h]; exact tblG_m2 126 rfl rfl⟩
set_option maxRecDepth 20000 in
theorem lk2_28 {mi : xM} (h : mi.1.cls = "LacePins$Needs") : xLink mi mX2_sortByRow 1 28 := ⟨tblG_m2 133 rfl rfl, tblG_m1 4 rfl rfl, by decide +kernel, by decide, ⟨by decide +kernel, by decide +kernel, by decide +kernel⟩, by rw [h]; exact tblG_m2 130 rfl rfl⟩
set_option maxRecDepth 20000 in
theorem lk2_32 {mi : xM} (h : mi.1.cls = "LacePins$Needs") : xLink mi mJ_fill 2 32 := ⟨tblG_m2 136 rfl rfl, tblG_m1 11 rfl rfl, by decide +kernel, by decide, ⟨by decide +kernel, by decide +kernel, by decide +kernel⟩, by rw [h]; exact tblG_m2 134 rfl rfl⟩
set_option maxRecDepth 20000 in
theorem lk2_47 {mi : xM} (h : mi.1.cls = "LacePins$Needs") : xLink mi mX2_take 2 47 := ⟨tblG_m2 140 rfl rfl, tblG_m1 4 rfl rfl, by decide +kernel, by decide, ⟨by decide +kernel, by decide +kernel, by decide +kernel⟩, by rw [h]; exact tblG_m2 137 rfl rfl⟩
set_option maxRecDepth 20000 in
theorem lk2_54 {mi : xM} (h : mi.1.cls = "LacePins$Needs") : xLinkN mi mX7_pinBit 1 54 := ⟨tblG_m2 121 rfl rfl, tblG_m1 1 rfl rfl, by decide +kernel, by decide, ⟨by decide +kernel, by decide +kernel, by decide +kernel⟩, _, by rw [h]; exact tblN_m2 141 rfl rfl⟩
set_option maxRecDepth 20000 in
theorem lk7_129 {mi : xM} (h : mi.1.cls = "LacePins") : xLink mi mX3_lacksPair 1 129 := ⟨tblG_m2 148 rfl rfl, tblG_m1 2 rfl rfl, by decide +kernel, by decide, ⟨by decide +kernel, by decide +kernel, by decide +kernel⟩, by rw [h]; exact tblG_m2 145 rfl rfl⟩
set_option maxRecDepth 20000 in
theorem lk3_69 {mi : xM} (h : mi.1.cls = "LacePins$Pattern") : xLink mi mX3_isFilled 2 69 := ⟨tblG_m2 152 rfl rfl, tblG_m1 2 rfl rfl, by decide +kernel, by decide, ⟨by decide +kernel, by decide +kernel, by decide +kernel⟩, by rw [h]; exact tblG_m2 149 rfl rfl⟩
set_option maxRecDepth 20000 in
theorem lk3_63 {mi : xM} (h : mi.1.cls = "LacePins$Pattern") : xLink mi mX3_slotOfTurn 1 63 := ⟨tblG_m2 155 rfl rfl, tblG_m1 2 rfl rfl, by decide +kernel, by decide, ⟨by decide +kernel, by decide +kernel, by decide +kernel⟩, by rw [h]; exact tblG_m2 153 rfl rfl⟩
set_option maxRecDepth 20000 in
theorem lk3_66 {mi : xM} (h : mi.1.cls = "LacePins$Pattern") : xLink mi mX3_rowOfTurn 1 66 := ⟨tblG_m2 158 rfl rfl, tblG_m1 2 rfl rfl, by decide +kernel, by decide, ⟨by decide +kernel, by decide +kernel, by decide +kernel⟩, by rw [h]; exact tblG_m2 156 rfl rfl⟩
set_option maxRecDepth 20000 in
theorem lk7_132 {mi : xM} (h : mi.1.cls = "LacePins") : xLink mi mX3_isSlot 1 132 := ⟨tblG_m2 166 rfl rfl, tblG_m1 2 rfl rfl, by decide +kernel, by decide, ⟨by decide +kernel, by decide +kernel, by decide +kernel⟩, by rw [h]; exact tblG_m2 163 rfl rfl⟩
set_option maxRecDepth 20000 in
theorem lk7_135 {mi : xM} (h : mi.1.cls = "LacePins") : xLink mi mX3_fillAtFirst 2 135 := ⟨tblG_m2 170 rfl rfl, tblG_m1 2 rfl rfl, by decide +kernel, by decide, ⟨by decide +kernel, by decide +kernel, by decide +kernel⟩, by rw [h]; exact tblG_m2 167 rfl rfl⟩
set_option maxRecDepth 20000 in
theorem lk7_139 {mi : xM} (h : mi.1.cls = "LacePins") : xLink mi mX3_turnAt 2 139 := ⟨tblG_m2 178 rfl rfl, tblG_m1 2 rfl rfl, by decide +kernel, by decide, ⟨by decide +kernel, by decide +kernel, by decide +kernel⟩, by rw [h]; exact tblG_m2 175 rfl rfl⟩
set_option maxRecDepth 20000 in
theorem lk3_49 {mi : xM} (h : mi.1.cls = "LacePins$Pattern") : xLink mi mX3_turnNumber 2 49 := ⟨tblG_m2 181 rfl rfl, tblG_m1 2 rfl rfl, by decide +kernel, by decide, ⟨by decide +kernel, by decide +kernel, by decide +kernel⟩, by rw [h]; exact tblG_m2 179 rfl rfl⟩
set_option maxRecDepth 20000 in
theorem lk3_53 {mi : xM} (h : mi.1.cls = "LacePins$Pattern") : xLink mi mX3_placeOfTurn 1 53 := ⟨tblG_m2 185 rfl rfl, tblG_m1 2 rfl rfl, by decide +kernel, by decide, ⟨by decide +kernel, by decide +kernel, by decide +kernel⟩, by rw [h]; exact tblG_m2 182 rfl rfl⟩
set_option maxRecDepth 20000 in
theorem lk3_56 {mi : xM} (h : mi.1.cls = "LacePins$Pattern") : xLink mi mX3_removeTurn 1 56 := ⟨tblG_m2 189 rfl rfl, tblG_m1 2 rfl rfl, by decide +kernel, by decide, ⟨by decide +kernel, by decide +kernel, by decide +kernel⟩, by rw [h]; exact tblG_m2 186 rfl rfl⟩
set_option maxRecDepth 20000 in
theorem lk3_60 {mi : xM} (h : mi.1.cls = "LacePins$Pattern") : xLink mi mX3_sortTurns 0 60 := ⟨tblG_m2 193 rfl rfl, tblG_m1 2 rfl rfl, by decide +kernel, by decide, ⟨by decide +kernel, by decide +kernel, by decide +kernel⟩, by rw [h]; exact tblG_m2 190 rfl rfl⟩
set_option maxRecDepth 20000 in
theorem lk7_143 {mi : xM} (h : mi.1.cls = "LacePins") : xLink mi mX3_isFilled 2 143 := ⟨tblG_m2 152 rfl rfl, tblG_m1 2 rfl rfl, by decide +kernel, by decide, ⟨by decide +kernel, by decide +kernel, by decide +kernel⟩, by rw [h]; exact tblG_m2 198 rfl rfl⟩
set_option maxRecDepth 20000 in
theorem lk7_147 {mi : xM} (h : mi.1.cls = "LacePins") : xLink mi mX3_flip 0 147 := ⟨tblG_m2 206 rfl rfl, tblG_m1 2 rfl rfl, by decide +kernel, by decide, ⟨by decide +kernel, by decide +kernel, by decide +kernel⟩, by rw [h]; exact tblG_m2 203 rfl rfl⟩
set_option maxRecDepth 20000 in
theorem lk3_84 {mi : xM} (h : mi.1.cls = "LacePins$Pattern") : xLink mi mX3_flippedTurn 1 84 := ⟨tblG_m2 210 rfl rfl, tblG_m1 2 rfl rfl, by decide +kernel, by decide, ⟨by decide +kernel, by decide +kernel, by decide +kernel⟩, by rw [h]; exact tblG_m2 207 rfl rfl⟩
set_option maxRecDepth 20000 in
theorem lk3_87 {mi : xM} (h : mi.1.cls = "LacePins$Pattern") : xLink mi mX3_flippedFill 0 87 := ⟨tblG_m2 214 rfl rfl, tblG_m1 2 rfl rfl, by decide +kernel, by decide, ⟨by decide +kernel, by decide +kernel, by decide +kernel⟩, by rw [h]; exact tblG_m2 211 rfl rfl⟩
set_option maxRecDepth 20000 in
theorem lk7_150 {mi : xM} (h : mi.1.cls = "LacePins") : xLink mi mX3_isEven 0 150 := ⟨tblG_m2 222 rfl rfl, tblG_m1 2 rfl rfl, by decide +kernel, by decide, ⟨by decide +kernel, by decide +kernel, by decide +kernel⟩, by rw [h]; exact tblG_m2 219 rfl rfl⟩
set_option maxRecDepth 20000 in
theorem lk3_91 {mi : xM} (h : mi.1.cls = "LacePins$Pattern") : xLink mi mX3_hasLike 3 91 := ⟨tblG_m2 226 rfl rfl, tblG_m1 2 rfl rfl, by decide +kernel, by decide, ⟨by decide +kernel, by decide +kernel, by decide +kernel⟩, by rw [h]; exact tblG_m2 223 rfl rfl⟩
set_option maxRecDepth 20000 in
theorem lk7_166 {mi : xM} (h : mi.1.cls = "LacePins") : xLink mi mX2_neededBy 2 166 := ⟨tblG_m2 235 rfl rfl, tblG_m1 4 rfl rfl, by decide +kernel, by decide, ⟨by decide +kernel, by decide +kernel, by decide +kernel⟩, by rw [h]; exact tblG_m2 232 rfl rfl⟩
set_option maxRecDepth 20000 in
theorem lk2_64 {mi : xM} (h : mi.1.cls = "LacePins$Needs") : xLinkN mi mX7_hasPin 2 64 := ⟨tblG_m2 118 rfl rfl, tblG_m1 1 rfl rfl, by decide +kernel, by decide, ⟨by decide +kernel, by decide +kernel, by decide +kernel⟩, _, by rw [h]; exact tblN_m2 236 rfl rfl⟩
set_option maxRecDepth 20000 in
theorem lk7_170 {mi : xM} (h : mi.1.cls = "LacePins") : xLink mi mX7_lackingPins 0 170 := ⟨tblG_m3 4 rfl rfl, tblG_m1 1 rfl rfl, by decide +kernel, by decide, ⟨by decide +kernel, by decide +kernel, by decide +kernel⟩, by rw [h]; exact tblG_m3 1 rfl rfl⟩
set_option maxRecDepth 20000 in
theorem lk7_174 {mi : xM} (h : mi.1.cls = "LacePins") : xLink mi mX7_readyPins 0 174 := ⟨tblG_m3 8 rfl rfl, tblG_m1 1 rfl rfl, by decide +kernel, by decide, ⟨by decide +kernel, by decide +kernel, by decide +kernel⟩, by rw [h]; exact tblG_m3 5 rfl rfl⟩
set_option maxRecDepth 20000 in
theorem lk7_189 {mi : xM} (h : mi.1.cls = "LacePins") : xLink mi mX7_hasPin 2 189 := ⟨tblG_m2 118 rfl rfl, tblG_m1 1 rfl rfl, by decide +kernel, by decide, ⟨by decide +kernel, by decide +kernel, by decide +kernel⟩, by rw [h]; exact tblG_m3 9 rfl rfl⟩
set_option maxRecDepth 20000 in
theorem lk7_193 {mi : xM} (h : mi.1.cls = "LacePins") : xLink mi mX7_workOne 1 193 := ⟨tblG_m3 23 rfl rfl, tblG_m1 1 rfl rfl, by decide +kernel, by decide, ⟨by decide +kernel, by decide +kernel, by decide +kernel⟩, by rw [h]; exact tblG_m3 20 rfl rfl⟩
set_option maxRecDepth 20000 in
theorem lk7_348 {mi : xM} (h : mi.1.cls = "LacePins") : xLink mi mX0_workPin 3 348 := ⟨tblG_m3 27 rfl rfl, tblG_m1 3 rfl rfl, by decide +kernel, by decide, ⟨by decide +kernel, by decide +kernel, by decide +kernel⟩, by rw [h]; exact tblG_m3 24 rfl rfl⟩
set_option maxRecDepth 20000 in
theorem lk0_45 {mi : xM} (h : mi.1.cls = "LacePins$Bench") : xLinkN mi mX7_actCount 1 45 := ⟨tblG_m3 30 rfl rfl, tblG_m1 1 rfl rfl, by decide +kernel, by decide, ⟨by decide +kernel, by decide +kernel, by decide +kernel⟩, _, by rw [h]; exact tblN_m3 28 rfl rfl⟩
set_option maxRecDepth 20000 in
theorem lk0_49 {mi : xM} (h : mi.1.cls = "LacePins$Bench") : xLinkN mi mX7_isCrossAct 2 49 := ⟨tblG_m3 33 rfl rfl, tblG_m1 1 rfl rfl, by decide +kernel, by decide, ⟨by decide +kernel, by decide +kernel, by decide +kernel⟩, _, by rw [h]; exact tblN_m3 31 rfl rfl⟩
set_option maxRecDepth 20000 in
theorem lk0_53 {mi : xM} (h : mi.1.cls = "LacePins$Bench") : xLink mi mX0_goOver 2 53 := ⟨tblG_m3 37 rfl rfl, tblG_m1 3 rfl rfl, by decide +kernel, by decide, ⟨by decide +kernel, by decide +kernel, by decide +kernel⟩, by rw [h]; exact tblG_m3 34 rfl rfl⟩
set_option maxRecDepth 20000 in
theorem lk0_66 {mi : xM} (h : mi.1.cls = "LacePins$Bench") : xLink mi mX0_changePlaces 2 66 := ⟨tblG_m3 41 rfl rfl, tblG_m1 3 rfl rfl, by decide +kernel, by decide, ⟨by decide +kernel, by decide +kernel, by decide +kernel⟩, by rw [h]; exact tblG_m3 38 rfl rfl⟩
set_option maxRecDepth 20000 in
theorem lk0_57 {mi : xM} (h : mi.1.cls = "LacePins$Bench") : xLinkN mi mX7_pinBit 1 57 := ⟨tblG_m2 121 rfl rfl, tblG_m1 1 rfl rfl, by decide +kernel, by decide, ⟨by decide +kernel, by decide +kernel, by decide +kernel⟩, _, by rw [h]; exact tblN_m3 42 rfl rfl⟩
set_option maxRecDepth 20000 in
theorem lk7_199 {mi : xM} (h : mi.1.cls = "LacePins") : xLink mi mX3_uppermost 1 199 := ⟨tblG_m3 50 rfl rfl, tblG_m1 2 rfl rfl, by decide +kernel, by decide, ⟨by decide +kernel, by decide +kernel, by decide +kernel⟩, by rw [h]; exact tblG_m3 47 rfl rfl⟩
set_option maxRecDepth 20000 in
theorem lk3_77 {mi : xM} (h : mi.1.cls = "LacePins$Pattern") : xLinkN mi mX7_hasPin 2 77 := ⟨tblG_m2 118 rfl rfl, tblG_m1 1 rfl rfl, by decide +kernel, by decide, ⟨by decide +kernel, by decide +kernel, by decide +kernel⟩, _, by rw [h]; exact tblN_m3 51 rfl rfl⟩
set_option maxRecDepth 20000 in
theorem lk3_81 {mi : xM} (h : mi.1.cls = "LacePins$Pattern") : xLink mi mX3_isAbove 2 81 := ⟨tblG_m3 55 rfl rfl, tblG_m1 2 rfl rfl, by decide +kernel, by decide, ⟨by decide +kernel, by decide +kernel, by decide +kernel⟩, by rw [h]; exact tblG_m3 52 rfl rfl⟩
set_option maxRecDepth 20000 in
theorem lk7_203 {mi : xM} (h : mi.1.cls = "LacePins") : xLink mi mX0_lastWorked 0 203 := ⟨tblG_m3 63 rfl rfl, tblG_m1 3 rfl rfl, by decide +kernel, by decide, ⟨by decide +kernel, by decide +kernel, by decide +kernel⟩, by rw [h]; exact tblG_m3 60 rfl rfl⟩
set_option maxRecDepth 20000 in
theorem lk7_207 {mi : xM} (h : mi.1.cls = "LacePins") : xLink mi mX0_unwork 3 207 := ⟨tblG_m3 67 rfl rfl, tblG_m1 3 rfl rfl, by decide +kernel, by decide, ⟨by decide +kernel, by decide +kernel, by decide +kernel⟩, by rw [h]; exact tblG_m3 64 rfl rfl⟩
set_option maxRecDepth 20000 in
theorem lk0_61 {mi : xM} (h : mi.1.cls = "LacePins$Bench") : xLink mi mX0_goBack 2 61 := ⟨tblG_m3 71 rfl rfl, tblG_m1 3 rfl rfl, by decide +kernel, by decide, ⟨by decide +kernel, by decide +kernel, by decide +kernel⟩, by rw [h]; exact tblG_m3 68 rfl rfl⟩
set_option maxRecDepth 20000 in
theorem lk7_214 {mi : xM} (h : mi.1.cls = "LacePins") : xLink mi mX7_isThread 1 214 := ⟨tblG_m3 84 rfl rfl, tblG_m1 1 rfl rfl, by decide +kernel, by decide, ⟨by decide +kernel, by decide +kernel, by decide +kernel⟩, by rw [h]; exact tblG_m3 81 rfl rfl⟩
set_option maxRecDepth 20000 in
theorem lk7_220 {mi : xM} (h : mi.1.cls = "LacePins") : xLink mi mX7_actsOf 2 220 := ⟨tblG_m3 95 rfl rfl, tblG_m1 1 rfl rfl, by decide +kernel, by decide, ⟨by decide +kernel, by decide +kernel, by decide +kernel⟩, by rw [h]; exact tblG_m3 93 rfl rfl⟩
set_option maxRecDepth 20000 in
theorem lk7_382 {mi : xM} (h : mi.1.cls = "LacePins") : xLink mi mX7_actCount 1 382 := ⟨tblG_m3 30 rfl rfl, tblG_m1 1 rfl rfl, by decide +kernel, by decide, ⟨by decide +kernel, by decide +kernel, by decide +kernel⟩, by rw [h]; exact tblG_m3 96 rfl rfl⟩
set_option maxRecDepth 20000 in
theorem lk7_385 {mi : xM} (h : mi.1.cls = "LacePins") : xLink mi mX7_isCrossAct 2 385 := ⟨tblG_m3 33 rfl rfl, tblG_m1 1 rfl rfl, by decide +kernel, by decide, ⟨by decide +kernel, by decide +kernel, by decide +kernel⟩, by rw [h]; exact tblG_m3 97 rfl rfl⟩
set_option maxRecDepth 20000 in
theorem lk7_226 {mi : xM} (h : mi.1.cls = "LacePins") : xLink mi mX7_think 0 226 := ⟨tblG_m3 109 rfl rfl, tblG_m1 1 rfl rfl, by decide +kernel, by decide, ⟨by decide +kernel, by decide +kernel, by decide +kernel⟩, by rw [h]; exact tblG_m3 106 rfl rfl⟩
set_option maxRecDepth 20000 in
theorem lk7_351 {mi : xM} (h : mi.1.cls = "LacePins") : xLink mi mX6_gather 4 351 := ⟨tblG_m3 113 rfl rfl, tblG_m1 5 rfl rfl, by decide +kernel, by decide, ⟨by decide +kernel, by decide +kernel, by decide +kernel⟩, by rw [h]; exact tblG_m3 110 rfl rfl⟩
set_option maxRecDepth 20000 in
theorem lk6_46 {mi : xM} (h : mi.1.cls = "LacePins$Thought") : xLinkN mi mX7_hasPin 2 46 := ⟨tblG_m2 118 rfl rfl, tblG_m1 1 rfl rfl, by decide +kernel, by decide, ⟨by decide +kernel, by decide +kernel, by decide +kernel⟩, _, by rw [h]; exact tblN_m3 114 rfl rfl⟩
set_option maxRecDepth 20000 in
theorem lk6_58 {mi : xM} (h : mi.1.cls = "LacePins$Thought") : xLink mi mX6_amongLeft 1 58 := ⟨tblG_m3 118 rfl rfl, tblG_m1 5 rfl rfl, by decide +kernel, by decide, ⟨by decide +kernel, by decide +kernel, by decide +kernel⟩, by rw [h]; exact tblG_m3 115 rfl rfl⟩
set_option maxRecDepth 20000 in
theorem lk6_62 {mi : xM} (h : mi.1.cls = "LacePins$Thought") : xLink mi mX6_markMet 0 62 := ⟨tblG_m3 122 rfl rfl, tblG_m1 5 rfl rfl, by decide +kernel, by decide, ⟨by decide +kernel, by decide +kernel, by decide +kernel⟩, by rw [h]; exact tblG_m3 119 rfl rfl⟩
set_option maxRecDepth 20000 in
theorem lk6_65 {mi : xM} (h : mi.1.cls = "LacePins$Thought") : xLink mi mX6_wholeSet 0 65 := ⟨tblG_m3 126 rfl rfl, tblG_m1 5 rfl rfl, by decide +kernel, by decide, ⟨by decide +kernel, by decide +kernel, by decide +kernel⟩, by rw [h]; exact tblG_m3 123 rfl rfl⟩
set_option maxRecDepth 20000 in
theorem lk6_69 {mi : xM} (h : mi.1.cls = "LacePins$Thought") : xLink mi mX6_comesNext 2 69 := ⟨tblG_m3 130 rfl rfl, tblG_m1 5 rfl rfl, by decide +kernel, by decide, ⟨by decide +kernel, by decide +kernel, by decide +kernel⟩, by rw [h]; exact tblG_m3 127 rfl rfl⟩
set_option maxRecDepth 20000 in
theorem lk7_231 {mi : xM} (h : mi.1.cls = "LacePins") : xLink mi mX6_lawfulOrders 0 231 := ⟨tblG_m3 135 rfl rfl, tblG_m1 5 rfl rfl, by decide +kernel, by decide, ⟨by decide +kernel, by decide +kernel, by decide +kernel⟩, by rw [h]; exact tblG_m3 132 rfl rfl⟩
set_option maxRecDepth 20000 in
theorem lk7_237 {mi : xM} (h : mi.1.cls = "LacePins") : xLink mi mX6_pinOfOrder 2 237 := ⟨tblG_m3 143 rfl rfl, tblG_m1 5 rfl rfl, by decide +kernel, by decide, ⟨by decide +kernel, by decide +kernel, by decide +kernel⟩, by rw [h]; exact tblG_m3 140 rfl rfl⟩
set_option maxRecDepth 20000 in
theorem lk7_244 {mi : xM} (h : mi.1.cls = "LacePins") : xLink mi mX6_leastTravel 1 244 := ⟨tblG_m3 151 rfl rfl, tblG_m1 5 rfl rfl, by decide +kernel, by decide, ⟨by decide +kernel, by decide +kernel, by decide +kernel⟩, by rw [h]; exact tblG_m3 148 rfl rfl⟩
set_option maxRecDepth 20000 in
theorem lk6_73 {mi : xM} (h : mi.1.cls = "LacePins$Thought") : xLink mi mX6_placeOf 2 73 := ⟨tblG_m3 154 rfl rfl, tblG_m1 5 rfl rfl, by decide +kernel, by decide, ⟨by decide +kernel, by decide +kernel, by decide +kernel⟩, by rw [h]; exact tblG_m3 152 rfl rfl⟩
set_option maxRecDepth 20000 in
theorem lk6_77 {mi : xM} (h : mi.1.cls = "LacePins$Thought") : xLink mi mX6_leastFrom 2 77 := ⟨tblG_m3 158 rfl rfl, tblG_m1 5 rfl rfl, by decide +kernel, by decide, ⟨by decide +kernel, by decide +kernel, by decide +kernel⟩, by rw [h]; exact tblG_m3 155 rfl rfl⟩
set_option maxRecDepth 20000 in
theorem lk6_86 {mi : xM} (h : mi.1.cls = "LacePins$Thought") : xLink mi mX6_travelBy 3 86 := ⟨tblG_m3 162 rfl rfl, tblG_m1 5 rfl rfl, by decide +kernel, by decide, ⟨by decide +kernel, by decide +kernel, by decide +kernel⟩, by rw [h]; exact tblG_m3 159 rfl rfl⟩
set_option maxRecDepth 20000 in
theorem lk7_247 {mi : xM} (h : mi.1.cls = "LacePins") : xLink mi mX6_pinOfLeast 2 247 := ⟨tblG_m3 172 rfl rfl, tblG_m1 5 rfl rfl, by decide +kernel, by decide, ⟨by decide +kernel, by decide +kernel, by decide +kernel⟩, by rw [h]; exact tblG_m3 169 rfl rfl⟩
set_option maxRecDepth 20000 in
theorem lk6_93 {mi : xM} (h : mi.1.cls = "LacePins$Thought") : xLink mi mX6_leastTravel 1 93 := ⟨tblG_m3 151 rfl rfl, tblG_m1 5 rfl rfl, by decide +kernel, by decide, ⟨by decide +kernel, by decide +kernel, by decide +kernel⟩, by rw [h]; exact tblG_m3 173 rfl rfl⟩
set_option maxRecDepth 20000 in
theorem lk6_96 {mi : xM} (h : mi.1.cls = "LacePins$Thought") : xLink mi mX6_firstBy 3 96 := ⟨tblG_m3 177 rfl rfl, tblG_m1 5 rfl rfl, by decide +kernel, by decide, ⟨by decide +kernel, by decide +kernel, by decide +kernel⟩, by rw [h]; exact tblG_m3 174 rfl rfl⟩
set_option maxRecDepth 20000 in
theorem lk7_250 {mi : xM} (h : mi.1.cls = "LacePins") : xLink mi mX1_join 1 250 := ⟨tblG_m3 185 rfl rfl, tblG_m1 6 rfl rfl, by decide +kernel, by decide, ⟨by decide +kernel, by decide +kernel, by decide +kernel⟩, by rw [h]; exact tblG_m3 182 rfl rfl⟩
set_option maxRecDepth 20000 in
theorem lk1_37 {mi : xM} (h : mi.1.cls = "LacePins$Joins") : xLink mi mX1_sortOut 1 37 := ⟨tblG_m3 189 rfl rfl, tblG_m1 6 rfl rfl, by decide +kernel, by decide, ⟨by decide +kernel, by decide +kernel, by decide +kernel⟩, by rw [h]; exact tblG_m3 186 rfl rfl⟩
set_option maxRecDepth 20000 in
theorem lk1_52 {mi : xM} (h : mi.1.cls = "LacePins$Joins") : xLink mi mX3_turnsFull 1 52 := ⟨tblG_m3 193 rfl rfl, tblG_m1 2 rfl rfl, by decide +kernel, by decide, ⟨by decide +kernel, by decide +kernel, by decide +kernel⟩, by rw [h]; exact tblG_m3 190 rfl rfl⟩
set_option maxRecDepth 20000 in
theorem lk1_41 {mi : xM} (h : mi.1.cls = "LacePins$Joins") : xLink mi mX1_weigh 0 41 := ⟨tblG_m3 197 rfl rfl, tblG_m1 6 rfl rfl, by decide +kernel, by decide, ⟨by decide +kernel, by decide +kernel, by decide +kernel⟩, by rw [h]; exact tblG_m3 194 rfl rfl⟩
set_option maxRecDepth 20000 in
theorem lk1_78 {mi : xM} (h : mi.1.cls = "LacePins$Joins") : xLink mi mJ_bitCount 1 78 := ⟨tblG_m3 200 rfl rfl, tblG_m1 12 rfl rfl, by decide +kernel, by decide, ⟨by decide +kernel, by decide +kernel, by decide +kernel⟩, by rw [h]; exact tblG_m3 198 rfl rfl⟩
set_option maxRecDepth 20000 in
theorem lk1_83 {mi : xM} (h : mi.1.cls = "LacePins$Joins") : xLink mi mX1_bestOf 2 83 := ⟨tblG_m3 207 rfl rfl, tblG_m1 6 rfl rfl, by decide +kernel, by decide, ⟨by decide +kernel, by decide +kernel, by decide +kernel⟩, by rw [h]; exact tblG_m3 204 rfl rfl⟩
set_option maxRecDepth 20000 in
theorem lk1_75 {mi : xM} (h : mi.1.cls = "LacePins$Joins") : xLink mi mX1_bestFrom 2 75 := ⟨tblG_m3 211 rfl rfl, tblG_m1 6 rfl rfl, by decide +kernel, by decide, ⟨by decide +kernel, by decide +kernel, by decide +kernel⟩, by rw [h]; exact tblG_m3 208 rfl rfl⟩
set_option maxRecDepth 20000 in
theorem lk1_86 {mi : xM} (h : mi.1.cls = "LacePins$Joins") : xLink mi mX1_mayJoin 3 86 := ⟨tblG_m3 215 rfl rfl, tblG_m1 6 rfl rfl, by decide +kernel, by decide, ⟨by decide +kernel, by decide +kernel, by decide +kernel⟩, by rw [h]; exact tblG_m3 212 rfl rfl⟩
set_option maxRecDepth 20000 in
theorem lk1_59 {mi : xM} (h : mi.1.cls = "LacePins$Joins") : xLink mi mX3_rowOfTurn 1 59 := ⟨tblG_m2 158 rfl rfl, tblG_m1 2 rfl rfl, by decide +kernel, by decide, ⟨by decide +kernel, by decide +kernel, by decide +kernel⟩, by rw [h]; exact tblG_m3 216 rfl rfl⟩
set_option maxRecDepth 20000 in
theorem lk1_90 {mi : xM} (h : mi.1.cls = "LacePins$Joins") : xLink mi mX1_worthOf 3 90 := ⟨tblG_m3 220 rfl rfl, tblG_m1 6 rfl rfl, by decide +kernel, by decide, ⟨by decide +kernel, by decide +kernel, by decide +kernel⟩, by rw [h]; exact tblG_m3 217 rfl rfl⟩
set_option maxRecDepth 20000 in
theorem lk1_71 {mi : xM} (h : mi.1.cls = "LacePins$Joins") : xLink mi mX1_difference 2 71 := ⟨tblG_m3 224 rfl rfl, tblG_m1 6 rfl rfl, by decide +kernel, by decide, ⟨by decide +kernel, by decide +kernel, by decide +kernel⟩, by rw [h]; exact tblG_m3 221 rfl rfl⟩
set_option maxRecDepth 20000 in
theorem lk1_63 {mi : xM} (h : mi.1.cls = "LacePins$Joins") : xLink mi mX3_slotOfTurn 1 63 := ⟨tblG_m2 155 rfl rfl, tblG_m1 2 rfl rfl, by decide +kernel, by decide, ⟨by decide +kernel, by decide +kernel, by decide +kernel⟩, by rw [h]; exact tblG_m3 225 rfl rfl⟩
set_option maxRecDepth 20000 in
theorem lk1_44 {mi : xM} (h : mi.1.cls = "LacePins$Joins") : xLink mi mX1_choose 0 44 := ⟨tblG_m3 231 rfl rfl, tblG_m1 6 rfl rfl, by decide +kernel, by decide, ⟨by decide +kernel, by decide +kernel, by decide +kernel⟩, by rw [h]; exact tblG_m3 228 rfl rfl⟩
set_option maxRecDepth 20000 in
theorem lk1_97 {mi : xM} (h : mi.1.cls = "LacePins$Joins") : xLink mi mX1_firstOut 2 97 := ⟨tblG_m3 235 rfl rfl, tblG_m1 6 rfl rfl, by decide +kernel, by decide, ⟨by decide +kernel, by decide +kernel, by decide +kernel⟩, by rw [h]; exact tblG_m3 232 rfl rfl⟩
set_option maxRecDepth 20000 in
theorem lk7_256 {mi : xM} (h : mi.1.cls = "LacePins") : xLink mi mJ_bitCount 1 256 := ⟨tblG_m3 200 rfl rfl, tblG_m1 12 rfl rfl, by decide +kernel, by decide, ⟨by decide +kernel, by decide +kernel, by decide +kernel⟩, by rw [h]; exact tblG_m3 236 rfl rfl⟩
set_option maxRecDepth 20000 in
theorem lk7_273 {mi : xM} (h : mi.1.cls = "LacePins") : xLink mi mX7_slotAndRow 1 273 := ⟨tblG_m4 3 rfl rfl, tblG_m1 1 rfl rfl, by decide +kernel, by decide, ⟨by decide +kernel, by decide +kernel, by decide +kernel⟩, by rw [h]; exact tblG_m4 1 rfl rfl⟩
set_option maxRecDepth 20000 in
theorem lk7_355 {mi : xM} (h : mi.1.cls = "LacePins") : xLink mi mX3_slotOfTurn 1 355 := ⟨tblG_m2 155 rfl rfl, tblG_m1 2 rfl rfl, by decide +kernel, by decide, ⟨by decide +kernel, by decide +kernel, by decide +kernel⟩, by rw [h]; exact tblG_m4 4 rfl rfl⟩
set_option maxRecDepth 20000 in
theorem lk7_358 {mi : xM} (h : mi.1.cls = "LacePins") : xLink mi mX3_rowOfTurn 1 358 := ⟨tblG_m2 158 rfl rfl, tblG_m1 2 rfl rfl, by decide +kernel, by decide, ⟨by decide +kernel, by decide +kernel, by decide +kernel⟩, by rw [h]; exact tblG_m4 5 rfl rfl⟩
set_option maxRecDepth 20000 in
theorem lk7_282 {mi : xM} (h : mi.1.cls = "LacePins") : xLink mi mX7_drawPin 1 282 := ⟨tblG_m4 13 rfl rfl, tblG_m1 1 rfl rfl, by decide +kernel, by decide, ⟨by decide +kernel, by decide +kernel, by decide +kernel⟩, by rw [h]; exact tblG_m4 10 rfl rfl⟩
set_option maxRecDepth 20000 in
theorem lk7_285 {mi : xM} (h : mi.1.cls = "LacePins") : xLink mi mX4_isList 1 285 := ⟨tblG_m4 25 rfl rfl, tblG_m1 8 rfl rfl, by decide +kernel, by decide, ⟨by decide +kernel, by decide +kernel, by decide +kernel⟩, by rw [h]; exact tblG_m4 22 rfl rfl⟩
set_option maxRecDepth 20000 in
theorem lk7_288 {mi : xM} (h : mi.1.cls = "LacePins") : xLink mi mX4_holds 1 288 := ⟨tblG_m4 29 rfl rfl, tblG_m1 8 rfl rfl, by decide +kernel, by decide, ⟨by decide +kernel, by decide +kernel, by decide +kernel⟩, by rw [h]; exact tblG_m4 26 rfl rfl⟩
set_option maxRecDepth 20000 in
theorem lk7_294 {mi : xM} (h : mi.1.cls = "LacePins") : xLink mi mX4_put 3 294 := ⟨tblG_m4 33 rfl rfl, tblG_m1 8 rfl rfl, by decide +kernel, by decide, ⟨by decide +kernel, by decide +kernel, by decide +kernel⟩, by rw [h]; exact tblG_m4 30 rfl rfl⟩
set_option maxRecDepth 20000 in
theorem lk7_298 {mi : xM} (h : mi.1.cls = "LacePins") : xLink mi mX7_wouldBeSeen 4 298 := ⟨tblG_m4 41 rfl rfl, tblG_m1 1 rfl rfl, by decide +kernel, by decide, ⟨by decide +kernel, by decide +kernel, by decide +kernel⟩, by rw [h]; exact tblG_m4 38 rfl rfl⟩
set_option maxRecDepth 20000 in
theorem lk7_329 {mi : xM} (h : mi.1.cls = "LacePins") : xLink mi mX4_at 2 329 := ⟨tblG_m4 45 rfl rfl, tblG_m1 8 rfl rfl, by decide +kernel, by decide, ⟨by decide +kernel, by decide +kernel, by decide +kernel⟩, by rw [h]; exact tblG_m4 42 rfl rfl⟩
set_option maxRecDepth 20000 in
theorem lk7_302 {mi : xM} (h : mi.1.cls = "LacePins") : xLink mi mX5_append 1 302 := ⟨tblG_m4 53 rfl rfl, tblG_m1 7 rfl rfl, by decide +kernel, by decide, ⟨by decide +kernel, by decide +kernel, by decide +kernel⟩, by rw [h]; exact tblG_m4 50 rfl rfl⟩
set_option maxRecDepth 20000 in
theorem lk7_308 {mi : xM} (h : mi.1.cls = "LacePins") : xLink mi mX5_read 0 308 := ⟨tblG_m4 65 rfl rfl, tblG_m1 7 rfl rfl, by decide +kernel, by decide, ⟨by decide +kernel, by decide +kernel, by decide +kernel⟩, by rw [h]; exact tblG_m4 62 rfl rfl⟩
set_option maxRecDepth 20000 in
theorem lk5_40 {mi : xM} (h : mi.1.cls = "LacePins$Tape") : xLink mi mX5_readPart 1 40 := ⟨tblG_m4 69 rfl rfl, tblG_m1 7 rfl rfl, by decide +kernel, by decide, ⟨by decide +kernel, by decide +kernel, by decide +kernel⟩, by rw [h]; exact tblG_m4 66 rfl rfl⟩
set_option maxRecDepth 20000 in
theorem lk5_47 {mi : xM} (h : mi.1.cls = "LacePins$Tape") : xLink mi mX5_readKind 0 47 := ⟨tblG_m4 73 rfl rfl, tblG_m1 7 rfl rfl, by decide +kernel, by decide, ⟨by decide +kernel, by decide +kernel, by decide +kernel⟩, by rw [h]; exact tblG_m4 70 rfl rfl⟩
set_option maxRecDepth 20000 in
theorem lk5_57 {mi : xM} (h : mi.1.cls = "LacePins$Tape") : xLink mi mX5_skipWord 0 57 := ⟨tblG_m4 77 rfl rfl, tblG_m1 7 rfl rfl, by decide +kernel, by decide, ⟨by decide +kernel, by decide +kernel, by decide +kernel⟩, by rw [h]; exact tblG_m4 74 rfl rfl⟩
set_option maxRecDepth 20000 in
theorem lk5_62 {mi : xM} (h : mi.1.cls = "LacePins$Tape") : xLink mi mX5_isWord 2 62 := ⟨tblG_m4 82 rfl rfl, tblG_m1 7 rfl rfl, by decide +kernel, by decide, ⟨by decide +kernel, by decide +kernel, by decide +kernel⟩, by rw [h]; exact tblG_m4 79 rfl rfl⟩
set_option maxRecDepth 20000 in
theorem lk5_51 {mi : xM} (h : mi.1.cls = "LacePins$Tape") : xLink mi mX5_readNumber 0 51 := ⟨tblG_m4 137 rfl rfl, tblG_m1 7 rfl rfl, by decide +kernel, by decide, ⟨by decide +kernel, by decide +kernel, by decide +kernel⟩, by rw [h]; exact tblG_m4 134 rfl rfl⟩
set_option maxRecDepth 20000 in
theorem lk5_44 {mi : xM} (h : mi.1.cls = "LacePins$Tape") : xLink mi mX5_expect 1 44 := ⟨tblG_m4 141 rfl rfl, tblG_m1 7 rfl rfl, by decide +kernel, by decide, ⟨by decide +kernel, by decide +kernel, by decide +kernel⟩, by rw [h]; exact tblG_m4 138 rfl rfl⟩
set_option maxRecDepth 20000 in
theorem lk5_86 {mi : xM} (h : mi.1.cls = "LacePins$Tape") : xLink mi mX5_isFigureHere 0 86 := ⟨tblG_m4 145 rfl rfl, tblG_m1 7 rfl rfl, by decide +kernel, by decide, ⟨by decide +kernel, by decide +kernel, by decide +kernel⟩, by rw [h]; exact tblG_m4 142 rfl rfl⟩
set_option maxRecDepth 20000 in
theorem lk5_90 {mi : xM} (h : mi.1.cls = "LacePins$Tape") : xLink mi mX5_readFigure 0 90 := ⟨tblG_m4 149 rfl rfl, tblG_m1 7 rfl rfl, by decide +kernel, by decide, ⟨by decide +kernel, by decide +kernel, by decide +kernel⟩, by rw [h]; exact tblG_m4 146 rfl rfl⟩
set_option maxRecDepth 20000 in
theorem lk5_54 {mi : xM} (h : mi.1.cls = "LacePins$Tape") : xLink mi mX5_readStitch 0 54 := ⟨tblG_m4 153 rfl rfl, tblG_m1 7 rfl rfl, by decide +kernel, by decide, ⟨by decide +kernel, by decide +kernel, by decide +kernel⟩, by rw [h]; exact tblG_m4 150 rfl rfl⟩
set_option maxRecDepth 20000 in
theorem lk5_72 {mi : xM} (h : mi.1.cls = "LacePins$Tape") : xLink mi mX5_nameOf 1 72 := ⟨tblG_m4 156 rfl rfl, tblG_m1 7 rfl rfl, by decide +kernel, by decide, ⟨by decide +kernel, by decide +kernel, by decide +kernel⟩, by rw [h]; exact tblG_m4 154 rfl rfl⟩
set_option maxRecDepth 20000 in
theorem lk7_314 {mi : xM} (h : mi.1.cls = "LacePins") : xLink mi mX3_copyFrom 1 314 := ⟨tblG_m4 165 rfl rfl, tblG_m1 2 rfl rfl, by decide +kernel, by decide, ⟨by decide +kernel, by decide +kernel, by decide +kernel⟩, by rw [h]; exact tblG_m4 162 rfl rfl⟩
set_option maxRecDepth 20000 in
theorem lk7_320 {mi : xM} (h : mi.1.cls = "LacePins") : xLink mi mX7_tellPart 1 320 := ⟨tblG_m4 172 rfl rfl, tblG_m1 1 rfl rfl, by decide +kernel, by decide, ⟨by decide +kernel, by decide +kernel, by decide +kernel⟩, by rw [h]; exact tblG_m4 169 rfl rfl⟩
set_option maxRecDepth 20000 in
theorem lk7_373 {mi : xM} (h : mi.1.cls = "LacePins") : xLink mi mX7_pin 3 373 := ⟨tblG_m2 74 rfl rfl, tblG_m1 1 rfl rfl, by decide +kernel, by decide, ⟨by decide +kernel, by decide +kernel, by decide +kernel⟩, by rw [h]; exact tblG_m4 173 rfl rfl⟩
set_option maxRecDepth 20000 in
theorem lk7_376 {mi : xM} (h : mi.1.cls = "LacePins") : xLink mi mX7_turn 2 376 := ⟨tblG_m2 174 rfl rfl, tblG_m1 1 rfl rfl, by decide +kernel, by decide, ⟨by decide +kernel, by decide +kernel, by decide +kernel⟩, by rw [h]; exact tblG_m4 174 rfl rfl⟩
set_option maxRecDepth 20000 in
theorem lk7_379 {mi : xM} (h : mi.1.cls = "LacePins") : xLink mi mX7_fill 2 379 := ⟨tblG_m2 162 rfl rfl, tblG_m1 1 rfl rfl, by decide +kernel, by decide, ⟨by decide +kernel, by decide +kernel, by decide +kernel⟩, by rw [h]; exact tblG_m4 175 rfl rfl⟩
set_option maxRecDepth 20000 in
theorem lk7_323 {mi : xM} (h : mi.1.cls = "LacePins") : xLink mi mX4_begin 2 323 := ⟨tblG_m4 184 rfl rfl, tblG_m1 8 rfl rfl, by decide +kernel, by decide, ⟨by decide +kernel, by decide +kernel, by decide +kernel⟩, by rw [h]; exact tblG_m4 181 rfl rfl⟩
set_option maxRecDepth 20000 in
theorem lk4_19 {mi : xM} (h : mi.1.cls = "LacePins$Rows") : xLink mi mX4_put 3 19 := ⟨tblG_m4 33 rfl rfl, tblG_m1 8 rfl rfl, by decide +kernel, by decide, ⟨by decide +kernel, by decide +kernel, by decide +kernel⟩, by rw [h]; exact tblG_m4 185 rfl rfl⟩
set_option maxRecDepth 20000 in
theorem lk7_326 {mi : xM} (h : mi.1.cls = "LacePins") : xLink mi mX4_hasPlace 2 326 := ⟨tblG_m4 193 rfl rfl, tblG_m1 8 rfl rfl, by decide +kernel, by decide, ⟨by decide +kernel, by decide +kernel, by decide +kernel⟩, by rw [h]; exact tblG_m4 190 rfl rfl⟩
set_option maxRecDepth 20000 in
theorem lk7_335 {mi : xM} (h : mi.1.cls = "LacePins") : xLink mi mX3_turnsInto 1 335 := ⟨tblG_m4 205 rfl rfl, tblG_m1 2 rfl rfl, by decide +kernel, by decide, ⟨by decide +kernel, by decide +kernel, by decide +kernel⟩, by rw [h]; exact tblG_m4 202 rfl rfl⟩
set_option maxRecDepth 20000 in
theorem lk3_73 {mi : xM} (h : mi.1.cls = "LacePins$Pattern") : xLink mi mX3_turnsFull 1 73 := ⟨tblG_m3 193 rfl rfl, tblG_m1 2 rfl rfl, by decide +kernel, by decide, ⟨by decide +kernel, by decide +kernel, by decide +kernel⟩, by rw [h]; exact tblG_m4 206 rfl rfl⟩
set_option maxRecDepth 20000 in
theorem lk7_339 {mi : xM} (h : mi.1.cls = "LacePins") : xLink mi mX0_copyFrom 1 339 := ⟨tblG_m4 214 rfl rfl, tblG_m1 3 rfl rfl, by decide +kernel, by decide, ⟨by decide +kernel, by decide +kernel, by decide +kernel⟩, by rw [h]; exact tblG_m4 211 rfl rfl⟩
set_option maxRecDepth 20000 in
theorem lk8_75 {mi : xM} (h : mi.1.cls = "LacePinsModel") : xLink mi mX8_starts 1 75 := ⟨tblG_m4 230 rfl rfl, tblG_m1 9 rfl rfl, by decide +kernel, by decide, ⟨by decide +kernel, by decide +kernel, by decide +kernel⟩, by rw [h]; exact tblG_m4 227 rfl rfl⟩
set_option maxRecDepth 20000 in
theorem lk8_79 {mi : xM} (h : mi.1.cls = "LacePinsModel") : xLink mi mX8_isIn 3 79 := ⟨tblG_m5 91 rfl rfl, tblG_m1 9 rfl rfl, by decide +kernel, by decide, ⟨by decide +kernel, by decide +kernel, by decide +kernel⟩, by rw [h]; exact tblG_m5 89 rfl rfl⟩
set_option maxRecDepth 20000 in
theorem lk8_91 {mi : xM} (h : mi.1.cls = "LacePinsModel") : xLink mi mX8_shares 2 91 := ⟨tblG_m5 101 rfl rfl, tblG_m1 9 rfl rfl, by decide +kernel, by decide, ⟨by decide +kernel, by decide +kernel, by decide +kernel⟩, by rw [h]; exact tblG_m5 98 rfl rfl⟩
set_option maxRecDepth 20000 in
theorem lk8_95 {mi : xM} (h : mi.1.cls = "LacePinsModel") : xLink mi mX8_isPin 1 95 := ⟨tblG_m5 113 rfl rfl, tblG_m1 9 rfl rfl, by decide +kernel, by decide, ⟨by decide +kernel, by decide +kernel, by decide +kernel⟩, by rw [h]; exact tblG_m5 110 rfl rfl⟩
set_option maxRecDepth 20000 in
theorem lk8_99 {mi : xM} (h : mi.1.cls = "LacePinsModel") : xLink mi mX8_becomes 2 99 := ⟨tblG_m5 117 rfl rfl, tblG_m1 9 rfl rfl, by decide +kernel, by decide, ⟨by decide +kernel, by decide +kernel, by decide +kernel⟩, by rw [h]; exact tblG_m5 114 rfl rfl⟩
set_option maxRecDepth 20000 in
theorem lk8_103 {mi : xM} (h : mi.1.cls = "LacePinsModel") : xLink mi mX8_isSlot 1 103 := ⟨tblG_m5 125 rfl rfl, tblG_m1 9 rfl rfl, by decide +kernel, by decide, ⟨by decide +kernel, by decide +kernel, by decide +kernel⟩, by rw [h]; exact tblG_m5 122 rfl rfl⟩
set_option maxRecDepth 20000 in
theorem lk8_106 {mi : xM} (h : mi.1.cls = "LacePinsModel") : xLink mi mX8_isFilled 2 106 := ⟨tblG_m5 137 rfl rfl, tblG_m1 9 rfl rfl, by decide +kernel, by decide, ⟨by decide +kernel, by decide +kernel, by decide +kernel⟩, by rw [h]; exact tblG_m5 134 rfl rfl⟩
set_option maxRecDepth 20000 in
theorem lk8_109 {mi : xM} (h : mi.1.cls = "LacePinsModel") : xLink mi mX8_hasPin 3 109 := ⟨tblG_m5 149 rfl rfl, tblG_m1 9 rfl rfl, by decide +kernel, by decide, ⟨by decide +kernel, by decide +kernel, by decide +kernel⟩, by rw [h]; exact tblG_m5 146 rfl rfl⟩
set_option maxRecDepth 20000 in
theorem lk8_113 {mi : xM} (h : mi.1.cls = "LacePinsModel") : xLink mi mX8_hasTurn 1 113 := ⟨tblG_m5 153 rfl rfl, tblG_m1 9 rfl rfl, by decide +kernel, by decide, ⟨by decide +kernel, by decide +kernel, by decide +kernel⟩, by rw [h]; exact tblG_m5 150 rfl rfl⟩
set_option maxRecDepth 20000 in
theorem lk8_136 {mi : xM} (h : mi.1.cls = "LacePinsModel") : xLink mi mX8_findsAll 0 136 := ⟨tblG_m5 161 rfl rfl, tblG_m1 9 rfl rfl, by decide +kernel, by decide, ⟨by decide +kernel, by decide +kernel, by decide +kernel⟩, by rw [h]; exact tblG_m5 158 rfl rfl⟩
set_option maxRecDepth 20000 in
theorem lk8_124 {mi : xM} (h : mi.1.cls = "LacePinsModel") : xLink mi mX8_finds 1 124 := ⟨tblG_m5 165 rfl rfl, tblG_m1 9 rfl rfl, by decide +kernel, by decide, ⟨by decide +kernel, by decide +kernel, by decide +kernel⟩, by rw [h]; exact tblG_m5 162 rfl rfl⟩
set_option maxRecDepth 20000 in
theorem lk8_116 {mi : xM} (h : mi.1.cls = "LacePinsModel") : xLink mi mX8_ahead 2 116 := ⟨tblG_m5 169 rfl rfl, tblG_m1 9 rfl rfl, by decide +kernel, by decide, ⟨by decide +kernel, by decide +kernel, by decide +kernel⟩, by rw [h]; exact tblG_m5 166 rfl rfl⟩
set_option maxRecDepth 20000 in
theorem lk8_127 {mi : xM} (h : mi.1.cls = "LacePinsModel") : xLink mi mX8_lacks 1 127 := ⟨tblG_m5 174 rfl rfl, tblG_m1 9 rfl rfl, by decide +kernel, by decide, ⟨by decide +kernel, by decide +kernel, by decide +kernel⟩, by rw [h]; exact tblG_m5 171 rfl rfl⟩
set_option maxRecDepth 20000 in
theorem lk8_141 {mi : xM} (h : mi.1.cls = "LacePinsModel") : xLink mi mX8_isReady 1 141 := ⟨tblG_m5 187 rfl rfl, tblG_m1 9 rfl rfl, by decide +kernel, by decide, ⟨by decide +kernel, by decide +kernel, by decide +kernel⟩, by rw [h]; exact tblG_m5 184 rfl rfl⟩
set_option maxRecDepth 20000 in
theorem lk8_130 {mi : xM} (h : mi.1.cls = "LacePinsModel") : xLink mi mX8_done 0 130 := ⟨tblG_m5 191 rfl rfl, tblG_m1 9 rfl rfl, by decide +kernel, by decide, ⟨by decide +kernel, by decide +kernel, by decide +kernel⟩, by rw [h]; exact tblG_m5 188 rfl rfl⟩
set_option maxRecDepth 20000 in
theorem lk8_158 {mi : xM} (h : mi.1.cls = "LacePinsModel") : xLink mi mX8_works 1 158 := ⟨tblG_m5 204 rfl rfl, tblG_m1 9 rfl rfl, by decide +kernel, by decide, ⟨by decide +kernel, by decide +kernel, by decide +kernel⟩, by rw [h]; exact tblG_m5 201 rfl rfl⟩
set_option maxRecDepth 20000 in
theorem lk8_155 {mi : xM} (h : mi.1.cls = "LacePinsModel") : xLink mi mX8_stitches 3 155 := ⟨tblG_m5 208 rfl rfl, tblG_m1 9 rfl rfl, by decide +kernel, by decide, ⟨by decide +kernel, by decide +kernel, by decide +kernel⟩, by rw [h]; exact tblG_m5 205 rfl rfl⟩
set_option maxRecDepth 20000 in
theorem lk8_148 {mi : xM} (h : mi.1.cls = "LacePinsModel") : xLink mi mX8_crosses 2 148 := ⟨tblG_m5 212 rfl rfl, tblG_m1 9 rfl rfl, by decide +kernel, by decide, ⟨by decide +kernel, by decide +kernel, by decide +kernel⟩, by rw [h]; exact tblG_m5 209 rfl rfl⟩
set_option maxRecDepth 20000 in
theorem lk8_144 {mi : xM} (h : mi.1.cls = "LacePinsModel") : xLink mi mX8_goes 3 144 := ⟨tblG_m5 216 rfl rfl, tblG_m1 9 rfl rfl, by decide +kernel, by decide, ⟨by decide +kernel, by decide +kernel, by decide +kernel⟩, by rw [h]; exact tblG_m5 213 rfl rfl⟩
set_option maxRecDepth 20000 in
theorem lk8_152 {mi : xM} (h : mi.1.cls = "LacePinsModel") : xLink mi mX8_twists 2 152 := ⟨tblG_m5 220 rfl rfl, tblG_m1 9 rfl rfl, by decide +kernel, by decide, ⟨by decide +kernel, by decide +kernel, by decide +kernel⟩, by rw [h]; exact tblG_m5 217 rfl rfl⟩
set_option maxRecDepth 20000 in
theorem lk8_161 {mi : xM} (h : mi.1.cls = "LacePinsModel") : xLink mi mX8_isThread 1 161 := ⟨tblG_m6 0 rfl rfl, tblG_m1 9 rfl rfl, by decide +kernel, by decide, ⟨by decide +kernel, by decide +kernel, by decide +kernel⟩, by rw [h]; exact tblG_m5 237 rfl rfl⟩
set_option maxRecDepth 20000 in
theorem lk8_183 {mi : xM} (h : mi.1.cls = "LacePinsModel") : xLink mi mX8_areFew 0 183 := ⟨tblG_m6 20 rfl rfl, tblG_m1 9 rfl rfl, by decide +kernel, by decide, ⟨by decide +kernel, by decide +kernel, by decide +kernel⟩, by rw [h]; exact tblG_m6 17 rfl rfl⟩
set_option maxRecDepth 20000 in
theorem lk8_188 {mi : xM} (h : mi.1.cls = "LacePinsModel") : xLink mi mX8_goesBack 0 188 := ⟨tblG_m6 25 rfl rfl, tblG_m1 9 rfl rfl, by decide +kernel, by decide, ⟨by decide +kernel, by decide +kernel, by decide +kernel⟩, by rw [h]; exact tblG_m6 22 rfl rfl⟩
set_option maxRecDepth 20000 in
theorem lk8_168 {mi : xM} (h : mi.1.cls = "LacePinsModel") : xLink mi mX8_oneLacks 0 168 := ⟨tblG_m6 29 rfl rfl, tblG_m1 9 rfl rfl, by decide +kernel, by decide, ⟨by decide +kernel, by decide +kernel, by decide +kernel⟩, by rw [h]; exact tblG_m6 26 rfl rfl⟩
set_option maxRecDepth 20000 in
theorem lk8_173 {mi : xM} (h : mi.1.cls = "LacePinsModel") : xLink mi mX8_mayCome 2 173 := ⟨tblG_m6 34 rfl rfl, tblG_m1 9 rfl rfl, by decide +kernel, by decide, ⟨by decide +kernel, by decide +kernel, by decide +kernel⟩, by rw [h]; exact tblG_m6 31 rfl rfl⟩
set_option maxRecDepth 20000 in
theorem lk8_195 {mi : xM} (h : mi.1.cls = "LacePinsModel") : xLink mi mX8_leastFrom 2 195 := ⟨tblG_m6 50 rfl rfl, tblG_m1 9 rfl rfl, by decide +kernel, by decide, ⟨by decide +kernel, by decide +kernel, by decide +kernel⟩, by rw [h]; exact tblG_m6 47 rfl rfl⟩
set_option maxRecDepth 20000 in
theorem lk8_191 {mi : xM} (h : mi.1.cls = "LacePinsModel") : xLink mi mX8_farFrom 3 191 := ⟨tblG_m6 54 rfl rfl, tblG_m1 9 rfl rfl, by decide +kernel, by decide, ⟨by decide +kernel, by decide +kernel, by decide +kernel⟩, by rw [h]; exact tblG_m6 51 rfl rfl⟩
set_option maxRecDepth 20000 in
theorem lk8_217 {mi : xM} (h : mi.1.cls = "LacePinsModel") : xLink mi mX8_findsPairs 0 217 := ⟨tblG_m6 66 rfl rfl, tblG_m1 9 rfl rfl, by decide +kernel, by decide, ⟨by decide +kernel, by decide +kernel, by decide +kernel⟩, by rw [h]; exact tblG_m6 63 rfl rfl⟩
set_option maxRecDepth 20000 in
theorem lk8_214 {mi : xM} (h : mi.1.cls = "LacePinsModel") : xLink mi mX8_findsTurns 0 214 := ⟨tblG_m6 70 rfl rfl, tblG_m1 9 rfl rfl, by decide +kernel, by decide, ⟨by decide +kernel, by decide +kernel, by decide +kernel⟩, by rw [h]; exact tblG_m6 67 rfl rfl⟩
set_option maxRecDepth 20000 in
theorem lk8_210 {mi : xM} (h : mi.1.cls = "LacePinsModel") : xLink mi mX8_joins 4 210 := ⟨tblG_m6 74 rfl rfl, tblG_m1 9 rfl rfl, by decide +kernel, by decide, ⟨by decide +kernel, by decide +kernel, by decide +kernel⟩, by rw [h]; exact tblG_m6 71 rfl rfl⟩
set_option maxRecDepth 20000 in
theorem lk8_225 {mi : xM} (h : mi.1.cls = "LacePinsModel") : xLink mi mX8_isList 1 225 := ⟨tblG_m6 93 rfl rfl, tblG_m1 9 rfl rfl, by decide +kernel, by decide, ⟨by decide +kernel, by decide +kernel, by decide +kernel⟩, by rw [h]; exact tblG_m6 91 rfl rfl⟩
set_option maxRecDepth 20000 in
theorem lk8_265 {mi : xM} (h : mi.1.cls = "LacePinsModel") : xLink mi mX8_reads 1 265 := ⟨tblG_m6 115 rfl rfl, tblG_m1 9 rfl rfl, by decide +kernel, by decide, ⟨by decide +kernel, by decide +kernel, by decide +kernel⟩, by rw [h]; exact tblG_m6 112 rfl rfl⟩
set_option maxRecDepth 20000 in
theorem lk8_249 {mi : xM} (h : mi.1.cls = "LacePinsModel") : xLink mi mX8_word 2 249 := ⟨tblG_m6 119 rfl rfl, tblG_m1 9 rfl rfl, by decide +kernel, by decide, ⟨by decide +kernel, by decide +kernel, by decide +kernel⟩, by rw [h]; exact tblG_m6 116 rfl rfl⟩
set_option maxRecDepth 20000 in
theorem lk8_239 {mi : xM} (h : mi.1.cls = "LacePinsModel") : xLink mi mX8_here 0 239 := ⟨tblG_m6 123 rfl rfl, tblG_m1 9 rfl rfl, by decide +kernel, by decide, ⟨by decide +kernel, by decide +kernel, by decide +kernel⟩, by rw [h]; exact tblG_m6 120 rfl rfl⟩
set_option maxRecDepth 20000 in
theorem lk8_243 {mi : xM} (h : mi.1.cls = "LacePinsModel") : xLink mi mX8_fails 1 243 := ⟨tblG_m6 127 rfl rfl, tblG_m1 9 rfl rfl, by decide +kernel, by decide, ⟨by decide +kernel, by decide +kernel, by decide +kernel⟩, by rw [h]; exact tblG_m6 124 rfl rfl⟩
set_option maxRecDepth 20000 in
theorem lk8_252 {mi : xM} (h : mi.1.cls = "LacePinsModel") : xLink mi mX8_figures 0 252 := ⟨tblG_m6 131 rfl rfl, tblG_m1 9 rfl rfl, by decide +kernel, by decide, ⟨by decide +kernel, by decide +kernel, by decide +kernel⟩, by rw [h]; exact tblG_m6 128 rfl rfl⟩
set_option maxRecDepth 20000 in
theorem lk8_246 {mi : xM} (h : mi.1.cls = "LacePinsModel") : xLink mi mX8_blank 0 246 := ⟨tblG_m6 135 rfl rfl, tblG_m1 9 rfl rfl, by decide +kernel, by decide, ⟨by decide +kernel, by decide +kernel, by decide +kernel⟩, by rw [h]; exact tblG_m6 132 rfl rfl⟩
set_option maxRecDepth 20000 in
theorem lk8_268 {mi : xM} (h : mi.1.cls = "LacePinsModel") : xLink mi mX8_copies 2 268 := ⟨tblG_m6 138 rfl rfl, tblG_m1 9 rfl rfl, by decide +kernel, by decide, ⟨by decide +kernel, by decide +kernel, by decide +kernel⟩, by rw [h]; exact tblG_m6 136 rfl rfl⟩
set_option maxRecDepth 20000 in
theorem lk8_272 {mi : xM} (h : mi.1.cls = "LacePinsModel") : xLink mi mX8_tells 1 272 := ⟨tblG_m6 142 rfl rfl, tblG_m1 9 rfl rfl, by decide +kernel, by decide, ⟨by decide +kernel, by decide +kernel, by decide +kernel⟩, by rw [h]; exact tblG_m6 139 rfl rfl⟩
set_option maxRecDepth 20000 in
theorem lk8_255 {mi : xM} (h : mi.1.cls = "LacePinsModel") : xLink mi mX8_pin 3 255 := ⟨tblG_m5 95 rfl rfl, tblG_m1 9 rfl rfl, by decide +kernel, by decide, ⟨by decide +kernel, by decide +kernel, by decide +kernel⟩, by rw [h]; exact tblG_m6 143 rfl rfl⟩
set_option maxRecDepth 20000 in
theorem lk8_258 {mi : xM} (h : mi.1.cls = "LacePinsModel") : xLink mi mX8_turn 2 258 := ⟨tblG_m5 129 rfl rfl, tblG_m1 9 rfl rfl, by decide +kernel, by decide, ⟨by decide +kernel, by decide +kernel, by decide +kernel⟩, by rw [h]; exact tblG_m6 144 rfl rfl⟩
set_option maxRecDepth 20000 in
theorem lk8_261 {mi : xM} (h : mi.1.cls = "LacePinsModel") : xLink mi mX8_fill 2 261 := ⟨tblG_m5 121 rfl rfl, tblG_m1 9 rfl rfl, by decide +kernel, by decide, ⟨by decide +kernel, by decide +kernel, by decide +kernel⟩, by rw [h]; exact tblG_m6 145 rfl rfl⟩
set_option maxRecDepth 20000 in
theorem im_X0_begin : Cond.instanceMethod mX0_begin.1 ∈ tblG := tblG_m2 24 rfl rfl
set_option maxRecDepth 20000 in
theorem sl_X0_begin : Cond.selects mX0_begin.1.cls mX0_begin.1 mX0_begin.1 ∈ tblG := tblG_m2 25 rfl rfl
set_option maxRecDepth 20000 in
theorem im_X0_copyFrom : Cond.instanceMethod mX0_copyFrom.1 ∈ tblG := tblG_m4 212 rfl rfl
set_option maxRecDepth 20000 in
theorem sl_X0_copyFrom : Cond.selects mX0_copyFrom.1.cls mX0_copyFrom.1 mX0_copyFrom.1 ∈ tblG := tblG_m4 213 rfl rfl
set_option maxRecDepth 20000 in
theorem im_X0_isDone : Cond.instanceMethod mX0_isDone.1 ∈ tblG := tblG_m2 113 rfl rfl
set_option maxRecDepth 20000 in
theorem sl_X0_isDone : Cond.selects mX0_isDone.1.cls mX0_isDone.1 mX0_isDone.1 ∈ tblG := tblG_m2 114 rfl rfl
set_option maxRecDepth 20000 in
theorem im_X0_lastWorked : Cond.instanceMethod mX0_lastWorked.1 ∈ tblG := tblG_m3 61 rfl rfl
set_option maxRecDepth 20000 in
theorem sl_X0_lastWorked : Cond.selects mX0_lastWorked.1.cls mX0_lastWorked.1 mX0_lastWorked.1 ∈ tblG := tblG_m3 62 rfl rfl
set_option maxRecDepth 20000 in
theorem im_X0_workPin : Cond.instanceMethod mX0_workPin.1 ∈ tblG := tblG_m3 25 rfl rfl
set_option maxRecDepth 20000 in
theorem sl_X0_workPin : Cond.selects mX0_workPin.1.cls mX0_workPin.1 mX0_workPin.1 ∈ tblG := tblG_m3 26 rfl rfl
set_option maxRecDepth 20000 in
theorem im_X0_unwork : Cond.instanceMethod mX0_unwork.1 ∈ tblG := tblG_m3 65 rfl rfl
set_option maxRecDepth 20000 in
theorem sl_X0_unwork : Cond.selects mX0_unwork.1.cls mX0_unwork.1 mX0_unwork.1 ∈ tblG := tblG_m3 66 rfl rfl
set_option maxRecDepth 20000 in
theorem im_X0_goOver : Cond.instanceMethod mX0_goOver.1 ∈ tblG := tblG_m3 36 rfl rfl
set_option maxRecDepth 20000 in
theorem sl_X0_goOver : Cond.selects mX0_goOver.1.cls mX0_goOver.1 mX0_goOver.1 ∈ tblG := tblG_p1 13 rfl rfl
set_option maxRecDepth 20000 in
theorem im_X0_goBack : Cond.instanceMethod mX0_goBack.1 ∈ tblG := tblG_m3 70 rfl rfl
set_option maxRecDepth 20000 in
theorem sl_X0_goBack : Cond.selects mX0_goBack.1.cls mX0_goBack.1 mX0_goBack.1 ∈ tblG := tblG_p2 0 rfl rfl
set_option maxRecDepth 20000 in
theorem im_X0_changePlaces : Cond.instanceMethod mX0_changePlaces.1 ∈ tblG := tblG_m3 40 rfl rfl
set_option maxRecDepth 20000 in
theorem sl_X0_changePlaces : Cond.selects mX0_changePlaces.1.cls mX0_changePlaces.1 mX0_changePlaces.1 ∈ tblG := tblG_p1 14 rfl rfl
set_option maxRecDepth 20000 in
theorem im_X1_join : Cond.instanceMethod mX1_join.1 ∈ tblG := tblG_m3 183 rfl rfl
set_option maxRecDepth 20000 in
theorem sl_X1_join : Cond.selects mX1_join.1.cls mX1_join.1 mX1_join.1 ∈ tblG := tblG_m3 184 rfl rfl
set_option maxRecDepth 20000 in
theorem im_X1_sortOut : Cond.instanceMethod mX1_sortOut.1 ∈ tblG := tblG_m3 188 rfl rfl
set_option maxRecDepth 20000 in
theorem sl_X1_sortOut : Cond.selects mX1_sortOut.1.cls mX1_sortOut.1 mX1_sortOut.1 ∈ tblG := tblG_p2 10 rfl rfl
set_option maxRecDepth 20000 in
theorem im_X1_mayJoin : Cond.instanceMethod mX1_mayJoin.1 ∈ tblG := tblG_m3 214 rfl rfl
set_option maxRecDepth 20000 in
theorem sl_X1_mayJoin : Cond.selects mX1_mayJoin.1.cls mX1_mayJoin.1 mX1_mayJoin.1 ∈ tblG := tblG_p2 14 rfl rfl
set_option maxRecDepth 20000 in
theorem im_X1_difference : Cond.instanceMethod mX1_difference.1 ∈ tblG := tblG_m3 223 rfl rfl
set_option maxRecDepth 20000 in
theorem sl_X1_difference : Cond.selects mX1_difference.1.cls mX1_difference.1 mX1_difference.1 ∈ tblG := tblG_p3 0 rfl rfl
set_option maxRecDepth 20000 in
theorem im_X1_bestFrom : Cond.instanceMethod mX1_bestFrom.1 ∈ tblG := tblG_m3 210 rfl rfl
set_option maxRecDepth 20000 in
theorem sl_X1_bestFrom : Cond.selects mX1_bestFrom.1.cls mX1_bestFrom.1 mX1_bestFrom.1 ∈ tblG := tblG_p2 13 rfl rfl
set_option maxRecDepth 20000 in
theorem im_X1_worthOf : Cond.instanceMethod mX1_worthOf.1 ∈ tblG := tblG_m3 219 rfl rfl
set_option maxRecDepth 20000 in
theorem sl_X1_worthOf : Cond.selects mX1_worthOf.1.cls mX1_worthOf.1 mX1_worthOf.1 ∈ tblG := tblG_p2 15 rfl rfl
set_option maxRecDepth 20000 in
theorem im_X1_weigh : Cond.instanceMethod mX1_weigh.1 ∈ tblG := tblG_m3 196 rfl rfl
set_option maxRecDepth 20000 in
theorem sl_X1_weigh : Cond.selects mX1_weigh.1.cls mX1_weigh.1 mX1_weigh.1 ∈ tblG := tblG_p2 11 rfl rfl
set_option maxRecDepth 20000 in
theorem im_X1_bestOf : Cond.instanceMethod mX1_bestOf.1 ∈ tblG := tblG_m3 206 rfl rfl
set_option maxRecDepth 20000 in
theorem sl_X1_bestOf : Cond.selects mX1_bestOf.1.cls mX1_bestOf.1 mX1_bestOf.1 ∈ tblG := tblG_p2 12 rfl rfl
set_option maxRecDepth 20000 in
theorem im_X1_choose : Cond.instanceMethod mX1_choose.1 ∈ tblG := tblG_m3 230 rfl rfl
set_option maxRecDepth 20000 in
theorem sl_X1_choose : Cond.selects mX1_choose.1.cls mX1_choose.1 mX1_choose.1 ∈ tblG := tblG_p3 1 rfl rfl
set_option maxRecDepth 20000 in
theorem im_X1_firstOut : Cond.instanceMethod mX1_firstOut.1 ∈ tblG := tblG_m3 234 rfl rfl
set_option maxRecDepth 20000 in
theorem sl_X1_firstOut : Cond.selects mX1_firstOut.1.cls mX1_firstOut.1 mX1_firstOut.1 ∈ tblG := tblG_p3 2 rfl rfl
set_option maxRecDepth 20000 in
theorem im_X2_study : Cond.instanceMethod mX2_study.1 ∈ tblG := tblG_m2 127 rfl rfl
set_option maxRecDepth 20000 in
theorem sl_X2_study : Cond.selects mX2_study.1.cls mX2_study.1 mX2_study.1 ∈ tblG := tblG_m2 128 rfl rfl
set_option maxRecDepth 20000 in
theorem im_X2_sortByRow : Cond.instanceMethod mX2_sortByRow.1 ∈ tblG := tblG_m2 132 rfl rfl
set_option maxRecDepth 20000 in
theorem sl_X2_sortByRow : Cond.selects mX2_sortByRow.1.cls mX2_sortByRow.1 mX2_sortByRow.1 ∈ tblG := tblG_p1 2 rfl rfl
set_option maxRecDepth 20000 in
theorem im_X2_take : Cond.instanceMethod mX2_take.1 ∈ tblG := tblG_m2 139 rfl rfl
set_option maxRecDepth 20000 in
theorem sl_X2_take : Cond.selects mX2_take.1.cls mX2_take.1 mX2_take.1 ∈ tblG := tblG_p1 3 rfl rfl
set_option maxRecDepth 20000 in
theorem im_X2_neededBy : Cond.instanceMethod mX2_neededBy.1 ∈ tblG := tblG_m2 233 rfl rfl
set_option maxRecDepth 20000 in
theorem sl_X2_neededBy : Cond.selects mX2_neededBy.1.cls mX2_neededBy.1 mX2_neededBy.1 ∈ tblG := tblG_m2 234 rfl rfl
set_option maxRecDepth 20000 in
theorem im_X3_begin : Cond.instanceMethod mX3_begin.1 ∈ tblG := tblG_m2 20 rfl rfl
set_option maxRecDepth 20000 in
theorem sl_X3_begin : Cond.selects mX3_begin.1.cls mX3_begin.1 mX3_begin.1 ∈ tblG := tblG_m2 21 rfl rfl
set_option maxRecDepth 20000 in
theorem im_X3_copyFrom : Cond.instanceMethod mX3_copyFrom.1 ∈ tblG := tblG_m4 163 rfl rfl
set_option maxRecDepth 20000 in
theorem sl_X3_copyFrom : Cond.selects mX3_copyFrom.1.cls mX3_copyFrom.1 mX3_copyFrom.1 ∈ tblG := tblG_m4 164 rfl rfl
set_option maxRecDepth 20000 in
theorem im_X3_isSlot : Cond.instanceMethod mX3_isSlot.1 ∈ tblG := tblG_m2 164 rfl rfl
set_option maxRecDepth 20000 in
theorem sl_X3_isSlot : Cond.selects mX3_isSlot.1.cls mX3_isSlot.1 mX3_isSlot.1 ∈ tblG := tblG_m2 165 rfl rfl
set_option maxRecDepth 20000 in
theorem im_X3_isPinSlot : Cond.instanceMethod mX3_isPinSlot.1 ∈ tblG := tblG_m2 79 rfl rfl
set_option maxRecDepth 20000 in
theorem sl_X3_isPinSlot : Cond.selects mX3_isPinSlot.1.cls mX3_isPinSlot.1 mX3_isPinSlot.1 ∈ tblG := tblG_m2 80 rfl rfl
set_option maxRecDepth 20000 in
theorem im_X3_isPin : Cond.instanceMethod mX3_isPin.1 ∈ tblG := tblG_m2 105 rfl rfl
set_option maxRecDepth 20000 in
theorem sl_X3_isPin : Cond.selects mX3_isPin.1.cls mX3_isPin.1 mX3_isPin.1 ∈ tblG := tblG_m2 106 rfl rfl
set_option maxRecDepth 20000 in
theorem im_X3_addPin : Cond.instanceMethod mX3_addPin.1 ∈ tblG := tblG_m2 90 rfl rfl
set_option maxRecDepth 20000 in
theorem sl_X3_addPin : Cond.selects mX3_addPin.1.cls mX3_addPin.1 mX3_addPin.1 ∈ tblG := tblG_m2 91 rfl rfl
set_option maxRecDepth 20000 in
theorem im_X3_fillAtFirst : Cond.instanceMethod mX3_fillAtFirst.1 ∈ tblG := tblG_m2 168 rfl rfl
set_option maxRecDepth 20000 in
theorem sl_X3_fillAtFirst : Cond.selects mX3_fillAtFirst.1.cls mX3_fillAtFirst.1 mX3_fillAtFirst.1 ∈ tblG := tblG_m2 169 rfl rfl
set_option maxRecDepth 20000 in
theorem sm_X3_turnNumber : Cond.static mX3_turnNumber.1 ∈ tblG := tblG_m2 180 rfl rfl
set_option maxRecDepth 20000 in
theorem sm_X3_slotOfTurn : Cond.static mX3_slotOfTurn.1 ∈ tblG := tblG_m2 154 rfl rfl
set_option maxRecDepth 20000 in
theorem sm_X3_rowOfTurn : Cond.static mX3_rowOfTurn.1 ∈ tblG := tblG_m2 157 rfl rfl
set_option maxRecDepth 20000 in
theorem im_X3_turnAt : Cond.instanceMethod mX3_turnAt.1 ∈ tblG := tblG_m2 176 rfl rfl
set_option maxRecDepth 20000 in
theorem sl_X3_turnAt : Cond.selects mX3_turnAt.1.cls mX3_turnAt.1 mX3_turnAt.1 ∈ tblG := tblG_m2 177 rfl rfl
set_option maxRecDepth 20000 in
theorem im_X3_placeOfTurn : Cond.instanceMethod mX3_placeOfTurn.1 ∈ tblG := tblG_m2 184 rfl rfl
set_option maxRecDepth 20000 in
theorem sl_X3_placeOfTurn : Cond.selects mX3_placeOfTurn.1.cls mX3_placeOfTurn.1 mX3_placeOfTurn.1 ∈ tblG := tblG_p1 4 rfl rfl
set_option maxRecDepth 20000 in
theorem im_X3_removeTurn : Cond.instanceMethod mX3_removeTurn.1 ∈ tblG := tblG_m2 188 rfl rfl
set_option maxRecDepth 20000 in
theorem sl_X3_removeTurn : Cond.selects mX3_removeTurn.1.cls mX3_removeTurn.1 mX3_removeTurn.1 ∈ tblG := tblG_p1 5 rfl rfl
set_option maxRecDepth 20000 in
theorem im_X3_sortTurns : Cond.instanceMethod mX3_sortTurns.1 ∈ tblG := tblG_m2 192 rfl rfl
set_option maxRecDepth 20000 in
theorem sl_X3_sortTurns : Cond.selects mX3_sortTurns.1.cls mX3_sortTurns.1 mX3_sortTurns.1 ∈ tblG := tblG_p1 6 rfl rfl
set_option maxRecDepth 20000 in
theorem im_X3_isFilled : Cond.instanceMethod mX3_isFilled.1 ∈ tblG := tblG_m2 150 rfl rfl
set_option maxRecDepth 20000 in
theorem sl_X3_isFilled : Cond.selects mX3_isFilled.1.cls mX3_isFilled.1 mX3_isFilled.1 ∈ tblG := tblG_m2 151 rfl rfl
set_option maxRecDepth 20000 in
theorem im_X3_turnsFull : Cond.instanceMethod mX3_turnsFull.1 ∈ tblG := tblG_m3 191 rfl rfl
set_option maxRecDepth 20000 in
theorem sl_X3_turnsFull : Cond.selects mX3_turnsFull.1.cls mX3_turnsFull.1 mX3_turnsFull.1 ∈ tblG := tblG_m3 192 rfl rfl
set_option maxRecDepth 20000 in
theorem im_X3_turnsInto : Cond.instanceMethod mX3_turnsInto.1 ∈ tblG := tblG_m4 203 rfl rfl
set_option maxRecDepth 20000 in
theorem sl_X3_turnsInto : Cond.selects mX3_turnsInto.1.cls mX3_turnsInto.1 mX3_turnsInto.1 ∈ tblG := tblG_m4 204 rfl rfl
set_option maxRecDepth 20000 in
theorem im_X3_lacksPair : Cond.instanceMethod mX3_lacksPair.1 ∈ tblG := tblG_m2 146 rfl rfl
set_option maxRecDepth 20000 in
theorem sl_X3_lacksPair : Cond.selects mX3_lacksPair.1.cls mX3_lacksPair.1 mX3_lacksPair.1 ∈ tblG := tblG_m2 147 rfl rfl
set_option maxRecDepth 20000 in
theorem im_X3_uppermost : Cond.instanceMethod mX3_uppermost.1 ∈ tblG := tblG_m3 48 rfl rfl
set_option maxRecDepth 20000 in
theorem sl_X3_uppermost : Cond.selects mX3_uppermost.1.cls mX3_uppermost.1 mX3_uppermost.1 ∈ tblG := tblG_m3 49 rfl rfl
set_option maxRecDepth 20000 in
theorem im_X3_isAbove : Cond.instanceMethod mX3_isAbove.1 ∈ tblG := tblG_m3 54 rfl rfl
set_option maxRecDepth 20000 in
theorem sl_X3_isAbove : Cond.selects mX3_isAbove.1.cls mX3_isAbove.1 mX3_isAbove.1 ∈ tblG := tblG_p1 15 rfl rfl
set_option maxRecDepth 20000 in
theorem im_X3_flippedFill : Cond.instanceMethod mX3_flippedFill.1 ∈ tblG := tblG_m2 213 rfl rfl
set_option maxRecDepth 20000 in
theorem sl_X3_flippedFill : Cond.selects mX3_flippedFill.1.cls mX3_flippedFill.1 mX3_flippedFill.1 ∈ tblG := tblG_p1 8 rfl rfl
set_option maxRecDepth 20000 in
theorem im_X3_flippedTurn : Cond.instanceMethod mX3_flippedTurn.1 ∈ tblG := tblG_m2 209 rfl rfl
set_option maxRecDepth 20000 in
theorem sl_X3_flippedTurn : Cond.selects mX3_flippedTurn.1.cls mX3_flippedTurn.1 mX3_flippedTurn.1 ∈ tblG := tblG_p1 7 rfl rfl
set_option maxRecDepth 20000 in
theorem im_X3_flip : Cond.instanceMethod mX3_flip.1 ∈ tblG := tblG_m2 204 rfl rfl
set_option maxRecDepth 20000 in
theorem sl_X3_flip : Cond.selects mX3_flip.1.cls mX3_flip.1 mX3_flip.1 ∈ tblG := tblG_m2 205 rfl rfl
set_option maxRecDepth 20000 in
theorem im_X3_isEven : Cond.instanceMethod mX3_isEven.1 ∈ tblG := tblG_m2 220 rfl rfl
set_option maxRecDepth 20000 in
theorem sl_X3_isEven : Cond.selects mX3_isEven.1.cls mX3_isEven.1 mX3_isEven.1 ∈ tblG := tblG_m2 221 rfl rfl
set_option maxRecDepth 20000 in
theorem im_X3_hasLike : Cond.instanceMethod mX3_hasLike.1 ∈ tblG := tblG_m2 225 rfl rfl
set_option maxRecDepth 20000 in
theorem sl_X3_hasLike : Cond.selects mX3_hasLike.1.cls mX3_hasLike.1 mX3_hasLike.1 ∈ tblG := tblG_p1 9 rfl rfl
set_option maxRecDepth 20000 in
theorem im_X4_isList : Cond.instanceMethod mX4_isList.1 ∈ tblG := tblG_m4 23 rfl rfl
set_option maxRecDepth 20000 in
theorem sl_X4_isList : Cond.selects mX4_isList.1.cls mX4_isList.1 mX4_isList.1 ∈ tblG := tblG_m4 24 rfl rfl
set_option maxRecDepth 20000 in
theorem im_X4_holds : Cond.instanceMethod mX4_holds.1 ∈ tblG := tblG_m4 27 rfl rfl
set_option maxRecDepth 20000 in
theorem sl_X4_holds : Cond.selects mX4_holds.1.cls mX4_holds.1 mX4_holds.1 ∈ tblG := tblG_m4 28 rfl rfl
set_option maxRecDepth 20000 in
theorem im_X4_hasPlace : Cond.instanceMethod mX4_hasPlace.1 ∈ tblG := tblG_m4 191 rfl rfl
set_option maxRecDepth 20000 in
theorem sl_X4_hasPlace : Cond.selects mX4_hasPlace.1.cls mX4_hasPlace.1 mX4_hasPlace.1 ∈ tblG := tblG_m4 192 rfl rfl
set_option maxRecDepth 20000 in
theorem im_X4_begin : Cond.instanceMethod mX4_begin.1 ∈ tblG := tblG_m4 182 rfl rfl
set_option maxRecDepth 20000 in
theorem sl_X4_begin : Cond.selects mX4_begin.1.cls mX4_begin.1 mX4_begin.1 ∈ tblG := tblG_m4 183 rfl rfl
set_option maxRecDepth 20000 in
theorem im_X4_put : Cond.instanceMethod mX4_put.1 ∈ tblG := tblG_m4 31 rfl rfl
set_option maxRecDepth 20000 in
theorem sl_X4_put : Cond.selects mX4_put.1.cls mX4_put.1 mX4_put.1 ∈ tblG := tblG_m4 32 rfl rfl
set_option maxRecDepth 20000 in
theorem im_X4_at : Cond.instanceMethod mX4_at.1 ∈ tblG := tblG_m4 43 rfl rfl
set_option maxRecDepth 20000 in
theorem sl_X4_at : Cond.selects mX4_at.1.cls mX4_at.1 mX4_at.1 ∈ tblG := tblG_m4 44 rfl rfl
set_option maxRecDepth 20000 in
theorem im_X5_append : Cond.instanceMethod mX5_append.1 ∈ tblG := tblG_m4 51 rfl rfl
set_option maxRecDepth 20000 in
theorem sl_X5_append : Cond.selects mX5_append.1.cls mX5_append.1 mX5_append.1 ∈ tblG := tblG_m4 52 rfl rfl
set_option maxRecDepth 20000 in
theorem im_X5_read : Cond.instanceMethod mX5_read.1 ∈ tblG := tblG_m4 63 rfl rfl
set_option maxRecDepth 20000 in
theorem sl_X5_read : Cond.selects mX5_read.1.cls mX5_read.1 mX5_read.1 ∈ tblG := tblG_m4 64 rfl rfl
set_option maxRecDepth 20000 in
theorem im_X5_readPart : Cond.instanceMethod mX5_readPart.1 ∈ tblG := tblG_m4 68 rfl rfl
set_option maxRecDepth 20000 in
theorem sl_X5_readPart : Cond.selects mX5_readPart.1.cls mX5_readPart.1 mX5_readPart.1 ∈ tblG := tblG_p3 5 rfl rfl
set_option maxRecDepth 20000 in
theorem im_X5_readKind : Cond.instanceMethod mX5_readKind.1 ∈ tblG := tblG_m4 72 rfl rfl
set_option maxRecDepth 20000 in
theorem sl_X5_readKind : Cond.selects mX5_readKind.1.cls mX5_readKind.1 mX5_readKind.1 ∈ tblG := tblG_p3 6 rfl rfl
set_option maxRecDepth 20000 in
theorem im_X5_readStitch : Cond.instanceMethod mX5_readStitch.1 ∈ tblG := tblG_m4 152 rfl rfl
set_option maxRecDepth 20000 in
theorem sl_X5_readStitch : Cond.selects mX5_readStitch.1.cls mX5_readStitch.1 mX5_readStitch.1 ∈ tblG := tblG_p3 13 rfl rfl
set_option maxRecDepth 20000 in
theorem sm_X5_nameOf : Cond.static mX5_nameOf.1 ∈ tblG := tblG_m4 155 rfl rfl
set_option maxRecDepth 20000 in
theorem im_X5_readNumber : Cond.instanceMethod mX5_readNumber.1 ∈ tblG := tblG_m4 136 rfl rfl
set_option maxRecDepth 20000 in
theorem sl_X5_readNumber : Cond.selects mX5_readNumber.1.cls mX5_readNumber.1 mX5_readNumber.1 ∈ tblG := tblG_p3 9 rfl rfl
set_option maxRecDepth 20000 in
theorem im_X5_isFigureHere : Cond.instanceMethod mX5_isFigureHere.1 ∈ tblG := tblG_m4 144 rfl rfl
set_option maxRecDepth 20000 in
theorem sl_X5_isFigureHere : Cond.selects mX5_isFigureHere.1.cls mX5_isFigureHere.1 mX5_isFigureHere.1 ∈ tblG := tblG_p3 11 rfl rfl
set_option maxRecDepth 20000 in
theorem im_X5_readFigure : Cond.instanceMethod mX5_readFigure.1 ∈ tblG := tblG_m4 148 rfl rfl
set_option maxRecDepth 20000 in
theorem sl_X5_readFigure : Cond.selects mX5_readFigure.1.cls mX5_readFigure.1 mX5_readFigure.1 ∈ tblG := tblG_p3 12 rfl rfl
set_option maxRecDepth 20000 in
theorem im_X5_skipWord : Cond.instanceMethod mX5_skipWord.1 ∈ tblG := tblG_m4 76 rfl rfl
set_option maxRecDepth 20000 in
theorem sl_X5_skipWord : Cond.selects mX5_skipWord.1.cls mX5_skipWord.1 mX5_skipWord.1 ∈ tblG := tblG_p3 7 rfl rfl
set_option maxRecDepth 20000 in
theorem im_X5_isWord : Cond.instanceMethod mX5_isWord.1 ∈ tblG := tblG_m4 81 rfl rfl
set_option maxRecDepth 20000 in
theorem sl_X5_isWord : Cond.selects mX5_isWord.1.cls mX5_isWord.1 mX5_isWord.1 ∈ tblG := tblG_p3 8 rfl rfl
set_option maxRecDepth 20000 in
theorem im_X5_expect : Cond.instanceMethod mX5_expect.1 ∈ tblG := tblG_m4 140 rfl rfl
set_option maxRecDepth 20000 in
theorem sl_X5_expect : Cond.selects mX5_expect.1.cls mX5_expect.1 mX5_expect.1 ∈ tblG := tblG_p3 10 rfl rfl
set_option maxRecDepth 20000 in
theorem im_X6_gather : Cond.instanceMethod mX6_gather.1 ∈ tblG := tblG_m3 111 rfl rfl
set_option maxRecDepth 20000 in
theorem sl_X6_gather : Cond.selects mX6_gather.1.cls mX6_gather.1 mX6_gather.1 ∈ tblG := tblG_m3 112 rfl rfl
set_option maxRecDepth 20000 in
theorem im_X6_amongLeft : Cond.instanceMethod mX6_amongLeft.1 ∈ tblG := tblG_m3 117 rfl rfl
set_option maxRecDepth 20000 in
theorem sl_X6_amongLeft : Cond.selects mX6_amongLeft.1.cls mX6_amongLeft.1 mX6_amongLeft.1 ∈ tblG := tblG_p2 3 rfl rfl
set_option maxRecDepth 20000 in
theorem im_X6_wholeSet : Cond.instanceMethod mX6_wholeSet.1 ∈ tblG := tblG_m3 125 rfl rfl
set_option maxRecDepth 20000 in
theorem sl_X6_wholeSet : Cond.selects mX6_wholeSet.1.cls mX6_wholeSet.1 mX6_wholeSet.1 ∈ tblG := tblG_p2 5 rfl rfl
set_option maxRecDepth 20000 in
theorem im_X6_comesNext : Cond.instanceMethod mX6_comesNext.1 ∈ tblG := tblG_m3 129 rfl rfl
set_option maxRecDepth 20000 in
theorem sl_X6_comesNext : Cond.selects mX6_comesNext.1.cls mX6_comesNext.1 mX6_comesNext.1 ∈ tblG := tblG_p2 6 rfl rfl
set_option maxRecDepth 20000 in
theorem im_X6_markMet : Cond.instanceMethod mX6_markMet.1 ∈ tblG := tblG_m3 121 rfl rfl
set_option maxRecDepth 20000 in
theorem sl_X6_markMet : Cond.selects mX6_markMet.1.cls mX6_markMet.1 mX6_markMet.1 ∈ tblG := tblG_p2 4 rfl rfl
set_option maxRecDepth 20000 in
theorem im_X6_lawfulOrders : Cond.instanceMethod mX6_lawfulOrders.1 ∈ tblG := tblG_m3 133 rfl rfl
set_option maxRecDepth 20000 in
theorem sl_X6_lawfulOrders : Cond.selects mX6_lawfulOrders.1.cls mX6_lawfulOrders.1 mX6_lawfulOrders.1 ∈ tblG := tblG_m3 134 rfl rfl
set_option maxRecDepth 20000 in
theorem im_X6_pinOfOrder : Cond.instanceMethod mX6_pinOfOrder.1 ∈ tblG := tblG_m3 141 rfl rfl
set_option maxRecDepth 20000 in
theorem sl_X6_pinOfOrder : Cond.selects mX6_pinOfOrder.1.cls mX6_pinOfOrder.1 mX6_pinOfOrder.1 ∈ tblG := tblG_m3 142 rfl rfl
set_option maxRecDepth 20000 in
theorem im_X6_leastTravel : Cond.instanceMethod mX6_leastTravel.1 ∈ tblG := tblG_m3 149 rfl rfl
set_option maxRecDepth 20000 in
theorem sl_X6_leastTravel : Cond.selects mX6_leastTravel.1.cls mX6_leastTravel.1 mX6_leastTravel.1 ∈ tblG := tblG_m3 150 rfl rfl
set_option maxRecDepth 20000 in
theorem sm_X6_placeOf : Cond.static mX6_placeOf.1 ∈ tblG := tblG_m3 153 rfl rfl
set_option maxRecDepth 20000 in
theorem im_X6_travelBy : Cond.instanceMethod mX6_travelBy.1 ∈ tblG := tblG_m3 161 rfl rfl
set_option maxRecDepth 20000 in
theorem sl_X6_travelBy : Cond.selects mX6_travelBy.1.cls mX6_travelBy.1 mX6_travelBy.1 ∈ tblG := tblG_p2 8 rfl rfl
set_option maxRecDepth 20000 in
theorem im_X6_leastFrom : Cond.instanceMethod mX6_leastFrom.1 ∈ tblG := tblG_m3 157 rfl rfl
set_option maxRecDepth 20000 in
theorem sl_X6_leastFrom : Cond.selects mX6_leastFrom.1.cls mX6_leastFrom.1 mX6_leastFrom.1 ∈ tblG := tblG_p2 7 rfl rfl
set_option maxRecDepth 20000 in
theorem im_X6_pinOfLeast : Cond.instanceMethod mX6_pinOfLeast.1 ∈ tblG := tblG_m3 170 rfl rfl
set_option maxRecDepth 20000 in
theorem sl_X6_pinOfLeast : Cond.selects mX6_pinOfLeast.1.cls mX6_pinOfLeast.1 mX6_pinOfLeast.1 ∈ tblG := tblG_m3 171 rfl rfl
set_option maxRecDepth 20000 in
theorem im_X6_firstBy : Cond.instanceMethod mX6_firstBy.1 ∈ tblG := tblG_m3 176 rfl rfl
set_option maxRecDepth 20000 in
theorem sl_X6_firstBy : Cond.selects mX6_firstBy.1.cls mX6_firstBy.1 mX6_firstBy.1 ∈ tblG := tblG_p2 9 rfl rfl
set_option maxRecDepth 20000 in
theorem im_X7_loom : Cond.instanceMethod mX7_loom.1 ∈ tblG := tblG_m2 68 rfl rfl
set_option maxRecDepth 20000 in
theorem sl_X7_loom : Cond.selects mX7_loom.1.cls mX7_loom.1 mX7_loom.1 ∈ tblG := tblG_m2 69 rfl rfl
set_option maxRecDepth 20000 in
theorem im_X7_pin : Cond.instanceMethod mX7_pin.1 ∈ tblG := tblG_m2 72 rfl rfl
set_option maxRecDepth 20000 in
theorem sl_X7_pin : Cond.selects mX7_pin.1.cls mX7_pin.1 mX7_pin.1 ∈ tblG := tblG_m2 73 rfl rfl
set_option maxRecDepth 20000 in
theorem im_X7_drop : Cond.instanceMethod mX7_drop.1 ∈ tblG := tblG_m2 97 rfl rfl
set_option maxRecDepth 20000 in
theorem sl_X7_drop : Cond.selects mX7_drop.1.cls mX7_drop.1 mX7_drop.1 ∈ tblG := tblG_m2 98 rfl rfl
set_option maxRecDepth 20000 in
theorem im_X7_stitch : Cond.instanceMethod mX7_stitch.1 ∈ tblG := tblG_m2 101 rfl rfl
set_option maxRecDepth 20000 in
theorem sl_X7_stitch : Cond.selects mX7_stitch.1.cls mX7_stitch.1 mX7_stitch.1 ∈ tblG := tblG_m2 102 rfl rfl
set_option maxRecDepth 20000 in
theorem im_X7_of : Cond.instanceMethod mX7_of.1 ∈ tblG := tblG_m2 109 rfl rfl
set_option maxRecDepth 20000 in
theorem sl_X7_of : Cond.selects mX7_of.1.cls mX7_of.1 mX7_of.1 ∈ tblG := tblG_m2 110 rfl rfl
set_option maxRecDepth 20000 in
theorem im_X7_fill : Cond.instanceMethod mX7_fill.1 ∈ tblG := tblG_m2 160 rfl rfl
set_option maxRecDepth 20000 in
theorem sl_X7_fill : Cond.selects mX7_fill.1.cls mX7_fill.1 mX7_fill.1 ∈ tblG := tblG_m2 161 rfl rfl
set_option maxRecDepth 20000 in
theorem im_X7_turn : Cond.instanceMethod mX7_turn.1 ∈ tblG := tblG_m2 172 rfl rfl
set_option maxRecDepth 20000 in
theorem sl_X7_turn : Cond.selects mX7_turn.1.cls mX7_turn.1 mX7_turn.1 ∈ tblG := tblG_m2 173 rfl rfl
set_option maxRecDepth 20000 in
theorem im_X7_filled : Cond.instanceMethod mX7_filled.1 ∈ tblG := tblG_m2 195 rfl rfl
set_option maxRecDepth 20000 in
theorem sl_X7_filled : Cond.selects mX7_filled.1.cls mX7_filled.1 mX7_filled.1 ∈ tblG := tblG_m2 196 rfl rfl
set_option maxRecDepth 20000 in
theorem im_X7_mirror : Cond.instanceMethod mX7_mirror.1 ∈ tblG := tblG_m2 200 rfl rfl
set_option maxRecDepth 20000 in
theorem sl_X7_mirror : Cond.selects mX7_mirror.1.cls mX7_mirror.1 mX7_mirror.1 ∈ tblG := tblG_m2 201 rfl rfl
set_option maxRecDepth 20000 in
theorem im_X7_even : Cond.instanceMethod mX7_even.1 ∈ tblG := tblG_m2 216 rfl rfl
set_option maxRecDepth 20000 in
theorem sl_X7_even : Cond.selects mX7_even.1.cls mX7_even.1 mX7_even.1 ∈ tblG := tblG_m2 217 rfl rfl
set_option maxRecDepth 20000 in
theorem im_X7_needs : Cond.instanceMethod mX7_needs.1 ∈ tblG := tblG_m2 228 rfl rfl
set_option maxRecDepth 20000 in
theorem sl_X7_needs : Cond.selects mX7_needs.1.cls mX7_needs.1 mX7_needs.1 ∈ tblG := tblG_m2 229 rfl rfl
set_option maxRecDepth 20000 in
theorem im_X7_pins : Cond.instanceMethod mX7_pins.1 ∈ tblG := tblG_m2 238 rfl rfl
set_option maxRecDepth 20000 in
theorem sl_X7_pins : Cond.selects mX7_pins.1.cls mX7_pins.1 mX7_pins.1 ∈ tblG := tblG_m2 239 rfl rfl
set_option maxRecDepth 20000 in
theorem im_X7_deepest : Cond.instanceMethod mX7_deepest.1 ∈ tblG := tblG_m3 12 rfl rfl
set_option maxRecDepth 20000 in
theorem sl_X7_deepest : Cond.selects mX7_deepest.1.cls mX7_deepest.1 mX7_deepest.1 ∈ tblG := tblG_m3 13 rfl rfl
set_option maxRecDepth 20000 in
theorem im_X7_work : Cond.instanceMethod mX7_work.1 ∈ tblG := tblG_m3 17 rfl rfl
set_option maxRecDepth 20000 in
theorem sl_X7_work : Cond.selects mX7_work.1.cls mX7_work.1 mX7_work.1 ∈ tblG := tblG_m3 18 rfl rfl
set_option maxRecDepth 20000 in
theorem im_X7_workAll : Cond.instanceMethod mX7_workAll.1 ∈ tblG := tblG_m3 44 rfl rfl
set_option maxRecDepth 20000 in
theorem sl_X7_workAll : Cond.selects mX7_workAll.1.cls mX7_workAll.1 mX7_workAll.1 ∈ tblG := tblG_m3 45 rfl rfl
set_option maxRecDepth 20000 in
theorem im_X7_undo : Cond.instanceMethod mX7_undo.1 ∈ tblG := tblG_m3 57 rfl rfl
set_option maxRecDepth 20000 in
theorem sl_X7_undo : Cond.selects mX7_undo.1.cls mX7_undo.1 mX7_undo.1 ∈ tblG := tblG_m3 58 rfl rfl
set_option maxRecDepth 20000 in
theorem im_X7_thread : Cond.instanceMethod mX7_thread.1 ∈ tblG := tblG_m3 74 rfl rfl
set_option maxRecDepth 20000 in
theorem sl_X7_thread : Cond.selects mX7_thread.1.cls mX7_thread.1 mX7_thread.1 ∈ tblG := tblG_m3 75 rfl rfl
set_option maxRecDepth 20000 in
theorem im_X7_where : Cond.instanceMethod mX7_where.1 ∈ tblG := tblG_m3 78 rfl rfl
set_option maxRecDepth 20000 in
theorem sl_X7_where : Cond.selects mX7_where.1.cls mX7_where.1 mX7_where.1 ∈ tblG := tblG_m3 79 rfl rfl
set_option maxRecDepth 20000 in
theorem im_X7_overs : Cond.instanceMethod mX7_overs.1 ∈ tblG := tblG_m3 86 rfl rfl
set_option maxRecDepth 20000 in
theorem sl_X7_overs : Cond.selects mX7_overs.1.cls mX7_overs.1 mX7_overs.1 ∈ tblG := tblG_m3 87 rfl rfl
set_option maxRecDepth 20000 in
theorem im_X7_acts : Cond.instanceMethod mX7_acts.1 ∈ tblG := tblG_m3 90 rfl rfl
set_option maxRecDepth 20000 in
theorem sl_X7_acts : Cond.selects mX7_acts.1.cls mX7_acts.1 mX7_acts.1 ∈ tblG := tblG_m3 91 rfl rfl
set_option maxRecDepth 20000 in
theorem im_X7_hand : Cond.instanceMethod mX7_hand.1 ∈ tblG := tblG_m3 99 rfl rfl
set_option maxRecDepth 20000 in
theorem sl_X7_hand : Cond.selects mX7_hand.1.cls mX7_hand.1 mX7_hand.1 ∈ tblG := tblG_m3 100 rfl rfl
set_option maxRecDepth 20000 in
theorem im_X7_orders : Cond.instanceMethod mX7_orders.1 ∈ tblG := tblG_m3 103 rfl rfl
set_option maxRecDepth 20000 in
theorem sl_X7_orders : Cond.selects mX7_orders.1.cls mX7_orders.1 mX7_orders.1 ∈ tblG := tblG_m3 104 rfl rfl
set_option maxRecDepth 20000 in
theorem im_X7_order : Cond.instanceMethod mX7_order.1 ∈ tblG := tblG_m3 137 rfl rfl
set_option maxRecDepth 20000 in
theorem sl_X7_order : Cond.selects mX7_order.1.cls mX7_order.1 mX7_order.1 ∈ tblG := tblG_m3 138 rfl rfl
set_option maxRecDepth 20000 in
theorem im_X7_travel : Cond.instanceMethod mX7_travel.1 ∈ tblG := tblG_m3 145 rfl rfl
set_option maxRecDepth 20000 in
theorem sl_X7_travel : Cond.selects mX7_travel.1.cls mX7_travel.1 mX7_travel.1 ∈ tblG := tblG_m3 146 rfl rfl
set_option maxRecDepth 20000 in
theorem im_X7_along : Cond.instanceMethod mX7_along.1 ∈ tblG := tblG_m3 166 rfl rfl
set_option maxRecDepth 20000 in
theorem sl_X7_along : Cond.selects mX7_along.1.cls mX7_along.1 mX7_along.1 ∈ tblG := tblG_m3 167 rfl rfl
set_option maxRecDepth 20000 in
theorem im_X7_pairs : Cond.instanceMethod mX7_pairs.1 ∈ tblG := tblG_m3 179 rfl rfl
set_option maxRecDepth 20000 in
theorem sl_X7_pairs : Cond.selects mX7_pairs.1.cls mX7_pairs.1 mX7_pairs.1 ∈ tblG := tblG_m3 180 rfl rfl
set_option maxRecDepth 20000 in
theorem im_X7_hang : Cond.instanceMethod mX7_hang.1 ∈ tblG := tblG_m3 238 rfl rfl
set_option maxRecDepth 20000 in
theorem sl_X7_hang : Cond.selects mX7_hang.1.cls mX7_hang.1 mX7_hang.1 ∈ tblG := tblG_m3 239 rfl rfl
set_option maxRecDepth 20000 in
theorem im_X7_draft : Cond.instanceMethod mX7_draft.1 ∈ tblG := tblG_m4 7 rfl rfl
set_option maxRecDepth 20000 in
theorem sl_X7_draft : Cond.selects mX7_draft.1.cls mX7_draft.1 mX7_draft.1 ∈ tblG := tblG_m4 8 rfl rfl
set_option maxRecDepth 20000 in
theorem im_X7_paper : Cond.instanceMethod mX7_paper.1 ∈ tblG := tblG_m4 15 rfl rfl
set_option maxRecDepth 20000 in
theorem sl_X7_paper : Cond.selects mX7_paper.1.cls mX7_paper.1 mX7_paper.1 ∈ tblG := tblG_m4 16 rfl rfl
set_option maxRecDepth 20000 in
theorem im_X7_lay : Cond.instanceMethod mX7_lay.1 ∈ tblG := tblG_m4 19 rfl rfl
set_option maxRecDepth 20000 in
theorem sl_X7_lay : Cond.selects mX7_lay.1.cls mX7_lay.1 mX7_lay.1 ∈ tblG := tblG_m4 20 rfl rfl
set_option maxRecDepth 20000 in
theorem im_X7_seen : Cond.instanceMethod mX7_seen.1 ∈ tblG := tblG_m4 35 rfl rfl
set_option maxRecDepth 20000 in
theorem sl_X7_seen : Cond.selects mX7_seen.1.cls mX7_seen.1 mX7_seen.1 ∈ tblG := tblG_m4 36 rfl rfl
set_option maxRecDepth 20000 in
theorem im_X7_feed : Cond.instanceMethod mX7_feed.1 ∈ tblG := tblG_m4 47 rfl rfl
set_option maxRecDepth 20000 in
theorem sl_X7_feed : Cond.selects mX7_feed.1.cls mX7_feed.1 mX7_feed.1 ∈ tblG := tblG_m4 48 rfl rfl
set_option maxRecDepth 20000 in
theorem im_X7_clear : Cond.instanceMethod mX7_clear.1 ∈ tblG := tblG_m4 55 rfl rfl
set_option maxRecDepth 20000 in
theorem sl_X7_clear : Cond.selects mX7_clear.1.cls mX7_clear.1 mX7_clear.1 ∈ tblG := tblG_m4 56 rfl rfl
set_option maxRecDepth 20000 in
theorem im_X7_pricking : Cond.instanceMethod mX7_pricking.1 ∈ tblG := tblG_m4 59 rfl rfl
set_option maxRecDepth 20000 in
theorem sl_X7_pricking : Cond.selects mX7_pricking.1.cls mX7_pricking.1 mX7_pricking.1 ∈ tblG := tblG_m4 60 rfl rfl
set_option maxRecDepth 20000 in
theorem im_X7_list : Cond.instanceMethod mX7_list.1 ∈ tblG := tblG_m4 178 rfl rfl
set_option maxRecDepth 20000 in
theorem sl_X7_list : Cond.selects mX7_list.1.cls mX7_list.1 mX7_list.1 ∈ tblG := tblG_m4 179 rfl rfl
set_option maxRecDepth 20000 in
theorem im_X7_set : Cond.instanceMethod mX7_set.1 ∈ tblG := tblG_m4 187 rfl rfl
set_option maxRecDepth 20000 in
theorem sl_X7_set : Cond.selects mX7_set.1.cls mX7_set.1 mX7_set.1 ∈ tblG := tblG_m4 188 rfl rfl
set_option maxRecDepth 20000 in
theorem im_X7_get : Cond.instanceMethod mX7_get.1 ∈ tblG := tblG_m4 195 rfl rfl
set_option maxRecDepth 20000 in
theorem sl_X7_get : Cond.selects mX7_get.1.cls mX7_get.1 mX7_get.1 ∈ tblG := tblG_m4 196 rfl rfl
set_option maxRecDepth 20000 in
theorem im_X7_count : Cond.instanceMethod mX7_count.1 ∈ tblG := tblG_m4 199 rfl rfl
set_option maxRecDepth 20000 in
theorem sl_X7_count : Cond.selects mX7_count.1.cls mX7_count.1 mX7_count.1 ∈ tblG := tblG_m4 200 rfl rfl
set_option maxRecDepth 20000 in
theorem im_X7_image : Cond.instanceMethod mX7_image.1 ∈ tblG := tblG_m4 208 rfl rfl
set_option maxRecDepth 20000 in
theorem sl_X7_image : Cond.selects mX7_image.1.cls mX7_image.1 mX7_image.1 ∈ tblG := tblG_m4 209 rfl rfl
set_option maxRecDepth 20000 in
theorem im_X7_restore : Cond.instanceMethod mX7_restore.1 ∈ tblG := tblG_m4 217 rfl rfl
set_option maxRecDepth 20000 in
theorem sl_X7_restore : Cond.selects mX7_restore.1.cls mX7_restore.1 mX7_restore.1 ∈ tblG := tblG_m4 218 rfl rfl
set_option maxRecDepth 20000 in
theorem sm_X7_isRow : Cond.static mX7_isRow.1 ∈ tblG := tblG_m2 76 rfl rfl
set_option maxRecDepth 20000 in
theorem sm_X7_isStitch : Cond.static mX7_isStitch.1 ∈ tblG := tblG_m2 83 rfl rfl
set_option maxRecDepth 20000 in
theorem im_X7_isThread : Cond.instanceMethod mX7_isThread.1 ∈ tblG := tblG_m3 83 rfl rfl
set_option maxRecDepth 20000 in
theorem sl_X7_isThread : Cond.selects mX7_isThread.1.cls mX7_isThread.1 mX7_isThread.1 ∈ tblG := tblG_p2 1 rfl rfl
set_option maxRecDepth 20000 in
theorem sm_X7_pinBit : Cond.static mX7_pinBit.1 ∈ tblG := tblG_m2 120 rfl rfl
set_option maxRecDepth 20000 in
theorem sm_X7_hasPin : Cond.static mX7_hasPin.1 ∈ tblG := tblG_m2 117 rfl rfl
set_option maxRecDepth 20000 in
theorem im_X7_anyDone : Cond.instanceMethod mX7_anyDone.1 ∈ tblG := tblG_m2 87 rfl rfl
set_option maxRecDepth 20000 in
theorem sl_X7_anyDone : Cond.selects mX7_anyDone.1.cls mX7_anyDone.1 mX7_anyDone.1 ∈ tblG := tblG_p1 0 rfl rfl
set_option maxRecDepth 20000 in
theorem im_X7_depthOf : Cond.instanceMethod mX7_depthOf.1 ∈ tblG := tblG_m2 124 rfl rfl
set_option maxRecDepth 20000 in
theorem sl_X7_depthOf : Cond.selects mX7_depthOf.1.cls mX7_depthOf.1 mX7_depthOf.1 ∈ tblG := tblG_p1 1 rfl rfl
set_option maxRecDepth 20000 in
theorem im_X7_lackingPins : Cond.instanceMethod mX7_lackingPins.1 ∈ tblG := tblG_m3 3 rfl rfl
set_option maxRecDepth 20000 in
theorem sl_X7_lackingPins : Cond.selects mX7_lackingPins.1.cls mX7_lackingPins.1 mX7_lackingPins.1 ∈ tblG := tblG_p1 10 rfl rfl
set_option maxRecDepth 20000 in
theorem im_X7_readyPins : Cond.instanceMethod mX7_readyPins.1 ∈ tblG := tblG_m3 7 rfl rfl
set_option maxRecDepth 20000 in
theorem sl_X7_readyPins : Cond.selects mX7_readyPins.1.cls mX7_readyPins.1 mX7_readyPins.1 ∈ tblG := tblG_p1 11 rfl rfl
set_option maxRecDepth 20000 in
theorem im_X7_workOne : Cond.instanceMethod mX7_workOne.1 ∈ tblG := tblG_m3 22 rfl rfl
set_option maxRecDepth 20000 in
theorem sl_X7_workOne : Cond.selects mX7_workOne.1.cls mX7_workOne.1 mX7_workOne.1 ∈ tblG := tblG_p1 12 rfl rfl
set_option maxRecDepth 20000 in
theorem im_X7_think : Cond.instanceMethod mX7_think.1 ∈ tblG := tblG_m3 108 rfl rfl
set_option maxRecDepth 20000 in
theorem sl_X7_think : Cond.selects mX7_think.1.cls mX7_think.1 mX7_think.1 ∈ tblG := tblG_p2 2 rfl rfl
set_option maxRecDepth 20000 in
theorem sm_X7_slotAndRow : Cond.static mX7_slotAndRow.1 ∈ tblG := tblG_m4 2 rfl rfl
set_option maxRecDepth 20000 in
theorem im_X7_drawPin : Cond.instanceMethod mX7_drawPin.1 ∈ tblG := tblG_m4 12 rfl rfl
set_option maxRecDepth 20000 in
theorem sl_X7_drawPin : Cond.selects mX7_drawPin.1.cls mX7_drawPin.1 mX7_drawPin.1 ∈ tblG := tblG_p3 3 rfl rfl
set_option maxRecDepth 20000 in
theorem im_X7_wouldBeSeen : Cond.instanceMethod mX7_wouldBeSeen.1 ∈ tblG := tblG_m4 40 rfl rfl
set_option maxRecDepth 20000 in
theorem sl_X7_wouldBeSeen : Cond.selects mX7_wouldBeSeen.1.cls mX7_wouldBeSeen.1 mX7_wouldBeSeen.1 ∈ tblG := tblG_p3 4 rfl rfl
set_option maxRecDepth 20000 in
theorem im_X7_tellPart : Cond.instanceMethod mX7_tellPart.1 ∈ tblG := tblG_m4 171 rfl rfl
set_option maxRecDepth 20000 in
theorem sl_X7_tellPart : Cond.selects mX7_tellPart.1.cls mX7_tellPart.1 mX7_tellPart.1 ∈ tblG := tblG_p3 14 rfl rfl
set_option maxRecDepth 20000 in
theorem sm_X7_actCount : Cond.static mX7_actCount.1 ∈ tblG := tblG_m3 29 rfl rfl
set_option maxRecDepth 20000 in
theorem sm_X7_isCrossAct : Cond.static mX7_isCrossAct.1 ∈ tblG := tblG_m3 32 rfl rfl
set_option maxRecDepth 20000 in
theorem sm_X7_actsOf : Cond.static mX7_actsOf.1 ∈ tblG := tblG_m3 94 rfl rfl
set_option maxRecDepth 20000 in
theorem sm_X8_isIn : Cond.static mX8_isIn.1 ∈ tblG := tblG_m5 90 rfl rfl
set_option maxRecDepth 20000 in
theorem im_X8_starts : Cond.instanceMethod mX8_starts.1 ∈ tblG := tblG_m4 229 rfl rfl
set_option maxRecDepth 20000 in
theorem sl_X8_starts : Cond.selects mX8_starts.1.cls mX8_starts.1 mX8_starts.1 ∈ tblG := tblG_p3 15 rfl rfl
set_option maxRecDepth 20000 in
theorem im_X8_isPin : Cond.instanceMethod mX8_isPin.1 ∈ tblG := tblG_m5 112 rfl rfl
set_option maxRecDepth 20000 in
theorem sl_X8_isPin : Cond.selects mX8_isPin.1.cls mX8_isPin.1 mX8_isPin.1 ∈ tblG := tblG_p4 1 rfl rfl
set_option maxRecDepth 20000 in
theorem im_X8_isSlot : Cond.instanceMethod mX8_isSlot.1 ∈ tblG := tblG_m5 124 rfl rfl
set_option maxRecDepth 20000 in
theorem sl_X8_isSlot : Cond.selects mX8_isSlot.1.cls mX8_isSlot.1 mX8_isSlot.1 ∈ tblG := tblG_p4 3 rfl rfl
set_option maxRecDepth 20000 in
theorem sm_X8_copies : Cond.static mX8_copies.1 ∈ tblG := tblG_m6 137 rfl rfl
set_option maxRecDepth 20000 in
theorem im_X8_loom : Cond.instanceMethod mX8_loom.1 ∈ tblG := tblG_m5 84 rfl rfl
set_option maxRecDepth 20000 in
theorem sl_X8_loom : Cond.selects mX8_loom.1.cls mX8_loom.1 mX8_loom.1 ∈ tblG := tblG_m5 85 rfl rfl
set_option maxRecDepth 20000 in
theorem im_X8_shares : Cond.instanceMethod mX8_shares.1 ∈ tblG := tblG_m5 100 rfl rfl
set_option maxRecDepth 20000 in
theorem sl_X8_shares : Cond.selects mX8_shares.1.cls mX8_shares.1 mX8_shares.1 ∈ tblG := tblG_p4 0 rfl rfl
set_option maxRecDepth 20000 in
theorem im_X8_pin : Cond.instanceMethod mX8_pin.1 ∈ tblG := tblG_m5 93 rfl rfl
set_option maxRecDepth 20000 in
theorem sl_X8_pin : Cond.selects mX8_pin.1.cls mX8_pin.1 mX8_pin.1 ∈ tblG := tblG_m5 94 rfl rfl
set_option maxRecDepth 20000 in
theorem im_X8_drop : Cond.instanceMethod mX8_drop.1 ∈ tblG := tblG_m5 103 rfl rfl
set_option maxRecDepth 20000 in
theorem sl_X8_drop : Cond.selects mX8_drop.1.cls mX8_drop.1 mX8_drop.1 ∈ tblG := tblG_m5 104 rfl rfl
set_option maxRecDepth 20000 in
theorem im_X8_becomes : Cond.instanceMethod mX8_becomes.1 ∈ tblG := tblG_m5 116 rfl rfl
set_option maxRecDepth 20000 in
theorem sl_X8_becomes : Cond.selects mX8_becomes.1.cls mX8_becomes.1 mX8_becomes.1 ∈ tblG := tblG_p4 2 rfl rfl
set_option maxRecDepth 20000 in
theorem im_X8_stitch : Cond.instanceMethod mX8_stitch.1 ∈ tblG := tblG_m5 107 rfl rfl
set_option maxRecDepth 20000 in
theorem sl_X8_stitch : Cond.selects mX8_stitch.1.cls mX8_stitch.1 mX8_stitch.1 ∈ tblG := tblG_m5 108 rfl rfl
set_option maxRecDepth 20000 in
theorem im_X8_fill : Cond.instanceMethod mX8_fill.1 ∈ tblG := tblG_m5 119 rfl rfl
set_option maxRecDepth 20000 in
theorem sl_X8_fill : Cond.selects mX8_fill.1.cls mX8_fill.1 mX8_fill.1 ∈ tblG := tblG_m5 120 rfl rfl
set_option maxRecDepth 20000 in
theorem im_X8_turn : Cond.instanceMethod mX8_turn.1 ∈ tblG := tblG_m5 127 rfl rfl
set_option maxRecDepth 20000 in
theorem sl_X8_turn : Cond.selects mX8_turn.1.cls mX8_turn.1 mX8_turn.1 ∈ tblG := tblG_m5 128 rfl rfl
set_option maxRecDepth 20000 in
theorem im_X8_isFilled : Cond.instanceMethod mX8_isFilled.1 ∈ tblG := tblG_m5 136 rfl rfl
set_option maxRecDepth 20000 in
theorem sl_X8_isFilled : Cond.selects mX8_isFilled.1.cls mX8_isFilled.1 mX8_isFilled.1 ∈ tblG := tblG_p4 4 rfl rfl
set_option maxRecDepth 20000 in
theorem im_X8_filled : Cond.instanceMethod mX8_filled.1 ∈ tblG := tblG_m5 131 rfl rfl
set_option maxRecDepth 20000 in
theorem sl_X8_filled : Cond.selects mX8_filled.1.cls mX8_filled.1 mX8_filled.1 ∈ tblG := tblG_m5 132 rfl rfl
set_option maxRecDepth 20000 in
theorem im_X8_mirror : Cond.instanceMethod mX8_mirror.1 ∈ tblG := tblG_m5 139 rfl rfl
set_option maxRecDepth 20000 in
theorem sl_X8_mirror : Cond.selects mX8_mirror.1.cls mX8_mirror.1 mX8_mirror.1 ∈ tblG := tblG_m5 140 rfl rfl
set_option maxRecDepth 20000 in
theorem im_X8_hasPin : Cond.instanceMethod mX8_hasPin.1 ∈ tblG := tblG_m5 148 rfl rfl
set_option maxRecDepth 20000 in
theorem sl_X8_hasPin : Cond.selects mX8_hasPin.1.cls mX8_hasPin.1 mX8_hasPin.1 ∈ tblG := tblG_p4 5 rfl rfl
set_option maxRecDepth 20000 in
theorem im_X8_hasTurn : Cond.instanceMethod mX8_hasTurn.1 ∈ tblG := tblG_m5 152 rfl rfl
set_option maxRecDepth 20000 in
theorem sl_X8_hasTurn : Cond.selects mX8_hasTurn.1.cls mX8_hasTurn.1 mX8_hasTurn.1 ∈ tblG := tblG_p4 6 rfl rfl
set_option maxRecDepth 20000 in
theorem im_X8_even : Cond.instanceMethod mX8_even.1 ∈ tblG := tblG_m5 143 rfl rfl
set_option maxRecDepth 20000 in
theorem sl_X8_even : Cond.selects mX8_even.1.cls mX8_even.1 mX8_even.1 ∈ tblG := tblG_m5 144 rfl rfl
set_option maxRecDepth 20000 in
theorem im_X8_ahead : Cond.instanceMethod mX8_ahead.1 ∈ tblG := tblG_m5 168 rfl rfl
set_option maxRecDepth 20000 in
theorem sl_X8_ahead : Cond.selects mX8_ahead.1.cls mX8_ahead.1 mX8_ahead.1 ∈ tblG := tblG_p4 9 rfl rfl
set_option maxRecDepth 20000 in
theorem im_X8_finds : Cond.instanceMethod mX8_finds.1 ∈ tblG := tblG_m5 164 rfl rfl
set_option maxRecDepth 20000 in
theorem sl_X8_finds : Cond.selects mX8_finds.1.cls mX8_finds.1 mX8_finds.1 ∈ tblG := tblG_p4 8 rfl rfl
set_option maxRecDepth 20000 in
theorem im_X8_findsAll : Cond.instanceMethod mX8_findsAll.1 ∈ tblG := tblG_m5 160 rfl rfl
set_option maxRecDepth 20000 in
theorem sl_X8_findsAll : Cond.selects mX8_findsAll.1.cls mX8_findsAll.1 mX8_findsAll.1 ∈ tblG := tblG_p4 7 rfl rfl
set_option maxRecDepth 20000 in
theorem im_X8_lacks : Cond.instanceMethod mX8_lacks.1 ∈ tblG := tblG_m5 173 rfl rfl
set_option maxRecDepth 20000 in
theorem sl_X8_lacks : Cond.selects mX8_lacks.1.cls mX8_lacks.1 mX8_lacks.1 ∈ tblG := tblG_p4 10 rfl rfl
set_option maxRecDepth 20000 in
theorem im_X8_done : Cond.instanceMethod mX8_done.1 ∈ tblG := tblG_m5 190 rfl rfl
set_option maxRecDepth 20000 in
theorem sl_X8_done : Cond.selects mX8_done.1.cls mX8_done.1 mX8_done.1 ∈ tblG := tblG_p4 12 rfl rfl
set_option maxRecDepth 20000 in
theorem im_X8_isReady : Cond.instanceMethod mX8_isReady.1 ∈ tblG := tblG_m5 186 rfl rfl
set_option maxRecDepth 20000 in
theorem sl_X8_isReady : Cond.selects mX8_isReady.1.cls mX8_isReady.1 mX8_isReady.1 ∈ tblG := tblG_p4 11 rfl rfl
set_option maxRecDepth 20000 in
theorem im_X8_of : Cond.instanceMethod mX8_of.1 ∈ tblG := tblG_m5 155 rfl rfl
set_option maxRecDepth 20000 in
theorem sl_X8_of : Cond.selects mX8_of.1.cls mX8_of.1 mX8_of.1 ∈ tblG := tblG_m5 156 rfl rfl
set_option maxRecDepth 20000 in
theorem im_X8_needs : Cond.instanceMethod mX8_needs.1 ∈ tblG := tblG_m5 176 rfl rfl
set_option maxRecDepth 20000 in
theorem sl_X8_needs : Cond.selects mX8_needs.1.cls mX8_needs.1 mX8_needs.1 ∈ tblG := tblG_m5 177 rfl rfl
set_option maxRecDepth 20000 in
theorem im_X8_pins : Cond.instanceMethod mX8_pins.1 ∈ tblG := tblG_m5 181 rfl rfl
set_option maxRecDepth 20000 in
theorem sl_X8_pins : Cond.selects mX8_pins.1.cls mX8_pins.1 mX8_pins.1 ∈ tblG := tblG_m5 182 rfl rfl
set_option maxRecDepth 20000 in
theorem im_X8_deepest : Cond.instanceMethod mX8_deepest.1 ∈ tblG := tblG_m5 194 rfl rfl
set_option maxRecDepth 20000 in
theorem sl_X8_deepest : Cond.selects mX8_deepest.1.cls mX8_deepest.1 mX8_deepest.1 ∈ tblG := tblG_m5 195 rfl rfl
set_option maxRecDepth 20000 in
theorem im_X8_goes : Cond.instanceMethod mX8_goes.1 ∈ tblG := tblG_m5 215 rfl rfl
set_option maxRecDepth 20000 in
theorem sl_X8_goes : Cond.selects mX8_goes.1.cls mX8_goes.1 mX8_goes.1 ∈ tblG := tblG_p5 0 rfl rfl
set_option maxRecDepth 20000 in
theorem im_X8_crosses : Cond.instanceMethod mX8_crosses.1 ∈ tblG := tblG_m5 211 rfl rfl
set_option maxRecDepth 20000 in
theorem sl_X8_crosses : Cond.selects mX8_crosses.1.cls mX8_crosses.1 mX8_crosses.1 ∈ tblG := tblG_p4 15 rfl rfl
set_option maxRecDepth 20000 in
theorem im_X8_twists : Cond.instanceMethod mX8_twists.1 ∈ tblG := tblG_m5 219 rfl rfl
set_option maxRecDepth 20000 in
theorem sl_X8_twists : Cond.selects mX8_twists.1.cls mX8_twists.1 mX8_twists.1 ∈ tblG := tblG_p5 1 rfl rfl
set_option maxRecDepth 20000 in
theorem im_X8_stitches : Cond.instanceMethod mX8_stitches.1 ∈ tblG := tblG_m5 207 rfl rfl
set_option maxRecDepth 20000 in
theorem sl_X8_stitches : Cond.selects mX8_stitches.1.cls mX8_stitches.1 mX8_stitches.1 ∈ tblG := tblG_p4 14 rfl rfl
set_option maxRecDepth 20000 in
theorem im_X8_works : Cond.instanceMethod mX8_works.1 ∈ tblG := tblG_m5 203 rfl rfl
set_option maxRecDepth 20000 in
theorem sl_X8_works : Cond.selects mX8_works.1.cls mX8_works.1 mX8_works.1 ∈ tblG := tblG_p4 13 rfl rfl
set_option maxRecDepth 20000 in
theorem im_X8_work : Cond.instanceMethod mX8_work.1 ∈ tblG := tblG_m5 198 rfl rfl
set_option maxRecDepth 20000 in
theorem sl_X8_work : Cond.selects mX8_work.1.cls mX8_work.1 mX8_work.1 ∈ tblG := tblG_m5 199 rfl rfl
set_option maxRecDepth 20000 in
theorem im_X8_workAll : Cond.instanceMethod mX8_workAll.1 ∈ tblG := tblG_m5 222 rfl rfl
set_option maxRecDepth 20000 in
theorem sl_X8_workAll : Cond.selects mX8_workAll.1.cls mX8_workAll.1 mX8_workAll.1 ∈ tblG := tblG_m5 223 rfl rfl
set_option maxRecDepth 20000 in
theorem im_X8_undo : Cond.instanceMethod mX8_undo.1 ∈ tblG := tblG_m5 226 rfl rfl
set_option maxRecDepth 20000 in
theorem sl_X8_undo : Cond.selects mX8_undo.1.cls mX8_undo.1 mX8_undo.1 ∈ tblG := tblG_m5 227 rfl rfl
set_option maxRecDepth 20000 in
theorem im_X8_thread : Cond.instanceMethod mX8_thread.1 ∈ tblG := tblG_m5 230 rfl rfl
set_option maxRecDepth 20000 in
theorem sl_X8_thread : Cond.selects mX8_thread.1.cls mX8_thread.1 mX8_thread.1 ∈ tblG := tblG_m5 231 rfl rfl
set_option maxRecDepth 20000 in
theorem im_X8_isThread : Cond.instanceMethod mX8_isThread.1 ∈ tblG := tblG_m5 239 rfl rfl
set_option maxRecDepth 20000 in
theorem sl_X8_isThread : Cond.selects mX8_isThread.1.cls mX8_isThread.1 mX8_isThread.1 ∈ tblG := tblG_p5 2 rfl rfl
set_option maxRecDepth 20000 in
theorem im_X8_where : Cond.instanceMethod mX8_where.1 ∈ tblG := tblG_m5 234 rfl rfl
set_option maxRecDepth 20000 in
theorem sl_X8_where : Cond.selects mX8_where.1.cls mX8_where.1 mX8_where.1 ∈ tblG := tblG_m5 235 rfl rfl
set_option maxRecDepth 20000 in
theorem im_X8_overs : Cond.instanceMethod mX8_overs.1 ∈ tblG := tblG_m6 2 rfl rfl
set_option maxRecDepth 20000 in
theorem sl_X8_overs : Cond.selects mX8_overs.1.cls mX8_overs.1 mX8_overs.1 ∈ tblG := tblG_m6 3 rfl rfl
set_option maxRecDepth 20000 in
theorem im_X8_acts : Cond.instanceMethod mX8_acts.1 ∈ tblG := tblG_m6 6 rfl rfl
set_option maxRecDepth 20000 in
theorem sl_X8_acts : Cond.selects mX8_acts.1.cls mX8_acts.1 mX8_acts.1 ∈ tblG := tblG_m6 7 rfl rfl
set_option maxRecDepth 20000 in
theorem im_X8_hand : Cond.instanceMethod mX8_hand.1 ∈ tblG := tblG_m6 10 rfl rfl
set_option maxRecDepth 20000 in
theorem sl_X8_hand : Cond.selects mX8_hand.1.cls mX8_hand.1 mX8_hand.1 ∈ tblG := tblG_m6 11 rfl rfl
set_option maxRecDepth 20000 in
theorem im_X8_areFew : Cond.instanceMethod mX8_areFew.1 ∈ tblG := tblG_m6 19 rfl rfl
set_option maxRecDepth 20000 in
theorem sl_X8_areFew : Cond.selects mX8_areFew.1.cls mX8_areFew.1 mX8_areFew.1 ∈ tblG := tblG_p5 3 rfl rfl
set_option maxRecDepth 20000 in
theorem im_X8_mayCome : Cond.instanceMethod mX8_mayCome.1 ∈ tblG := tblG_m6 33 rfl rfl
set_option maxRecDepth 20000 in
theorem sl_X8_mayCome : Cond.selects mX8_mayCome.1.cls mX8_mayCome.1 mX8_mayCome.1 ∈ tblG := tblG_p5 6 rfl rfl
set_option maxRecDepth 20000 in
theorem im_X8_oneLacks : Cond.instanceMethod mX8_oneLacks.1 ∈ tblG := tblG_m6 28 rfl rfl
set_option maxRecDepth 20000 in
theorem sl_X8_oneLacks : Cond.selects mX8_oneLacks.1.cls mX8_oneLacks.1 mX8_oneLacks.1 ∈ tblG := tblG_p5 5 rfl rfl
set_option maxRecDepth 20000 in
theorem im_X8_goesBack : Cond.instanceMethod mX8_goesBack.1 ∈ tblG := tblG_m6 24 rfl rfl
set_option maxRecDepth 20000 in
theorem sl_X8_goesBack : Cond.selects mX8_goesBack.1.cls mX8_goesBack.1 mX8_goesBack.1 ∈ tblG := tblG_p5 4 rfl rfl
set_option maxRecDepth 20000 in
theorem im_X8_orders : Cond.instanceMethod mX8_orders.1 ∈ tblG := tblG_m6 14 rfl rfl
set_option maxRecDepth 20000 in
theorem sl_X8_orders : Cond.selects mX8_orders.1.cls mX8_orders.1 mX8_orders.1 ∈ tblG := tblG_m6 15 rfl rfl
set_option maxRecDepth 20000 in
theorem im_X8_order : Cond.instanceMethod mX8_order.1 ∈ tblG := tblG_m6 40 rfl rfl
set_option maxRecDepth 20000 in
theorem sl_X8_order : Cond.selects mX8_order.1.cls mX8_order.1 mX8_order.1 ∈ tblG := tblG_m6 41 rfl rfl
set_option maxRecDepth 20000 in
theorem im_X8_farFrom : Cond.instanceMethod mX8_farFrom.1 ∈ tblG := tblG_m6 53 rfl rfl
set_option maxRecDepth 20000 in
theorem sl_X8_farFrom : Cond.selects mX8_farFrom.1.cls mX8_farFrom.1 mX8_farFrom.1 ∈ tblG := tblG_p5 8 rfl rfl
set_option maxRecDepth 20000 in
theorem im_X8_leastFrom : Cond.instanceMethod mX8_leastFrom.1 ∈ tblG := tblG_m6 49 rfl rfl
set_option maxRecDepth 20000 in
theorem sl_X8_leastFrom : Cond.selects mX8_leastFrom.1.cls mX8_leastFrom.1 mX8_leastFrom.1 ∈ tblG := tblG_p5 7 rfl rfl
set_option maxRecDepth 20000 in
theorem im_X8_travel : Cond.instanceMethod mX8_travel.1 ∈ tblG := tblG_m6 44 rfl rfl
set_option maxRecDepth 20000 in
theorem sl_X8_travel : Cond.selects mX8_travel.1.cls mX8_travel.1 mX8_travel.1 ∈ tblG := tblG_m6 45 rfl rfl
set_option maxRecDepth 20000 in
theorem im_X8_along : Cond.instanceMethod mX8_along.1 ∈ tblG := tblG_m6 56 rfl rfl
set_option maxRecDepth 20000 in
theorem sl_X8_along : Cond.selects mX8_along.1.cls mX8_along.1 mX8_along.1 ∈ tblG := tblG_m6 57 rfl rfl
set_option maxRecDepth 20000 in
theorem im_X8_findsTurns : Cond.instanceMethod mX8_findsTurns.1 ∈ tblG := tblG_m6 69 rfl rfl
set_option maxRecDepth 20000 in
theorem sl_X8_findsTurns : Cond.selects mX8_findsTurns.1.cls mX8_findsTurns.1 mX8_findsTurns.1 ∈ tblG := tblG_p5 10 rfl rfl
set_option maxRecDepth 20000 in
theorem im_X8_joins : Cond.instanceMethod mX8_joins.1 ∈ tblG := tblG_m6 73 rfl rfl
set_option maxRecDepth 20000 in
theorem sl_X8_joins : Cond.selects mX8_joins.1.cls mX8_joins.1 mX8_joins.1 ∈ tblG := tblG_p5 11 rfl rfl
set_option maxRecDepth 20000 in
theorem im_X8_findsPairs : Cond.instanceMethod mX8_findsPairs.1 ∈ tblG := tblG_m6 65 rfl rfl
set_option maxRecDepth 20000 in
theorem sl_X8_findsPairs : Cond.selects mX8_findsPairs.1.cls mX8_findsPairs.1 mX8_findsPairs.1 ∈ tblG := tblG_p5 9 rfl rfl
set_option maxRecDepth 20000 in
theorem im_X8_pairs : Cond.instanceMethod mX8_pairs.1 ∈ tblG := tblG_m6 60 rfl rfl
set_option maxRecDepth 20000 in
theorem sl_X8_pairs : Cond.selects mX8_pairs.1.cls mX8_pairs.1 mX8_pairs.1 ∈ tblG := tblG_m6 61 rfl rfl
set_option maxRecDepth 20000 in
theorem im_X8_hang : Cond.instanceMethod mX8_hang.1 ∈ tblG := tblG_m6 76 rfl rfl
set_option maxRecDepth 20000 in
theorem sl_X8_hang : Cond.selects mX8_hang.1.cls mX8_hang.1 mX8_hang.1 ∈ tblG := tblG_m6 77 rfl rfl
set_option maxRecDepth 20000 in
theorem im_X8_draft : Cond.instanceMethod mX8_draft.1 ∈ tblG := tblG_m6 80 rfl rfl
set_option maxRecDepth 20000 in
theorem sl_X8_draft : Cond.selects mX8_draft.1.cls mX8_draft.1 mX8_draft.1 ∈ tblG := tblG_m6 81 rfl rfl
set_option maxRecDepth 20000 in
theorem im_X8_paper : Cond.instanceMethod mX8_paper.1 ∈ tblG := tblG_m6 84 rfl rfl
set_option maxRecDepth 20000 in
theorem sl_X8_paper : Cond.selects mX8_paper.1.cls mX8_paper.1 mX8_paper.1 ∈ tblG := tblG_m6 85 rfl rfl
set_option maxRecDepth 20000 in
theorem sm_X8_isList : Cond.static mX8_isList.1 ∈ tblG := tblG_m6 92 rfl rfl
set_option maxRecDepth 20000 in
theorem im_X8_lay : Cond.instanceMethod mX8_lay.1 ∈ tblG := tblG_m6 88 rfl rfl
set_option maxRecDepth 20000 in
theorem sl_X8_lay : Cond.selects mX8_lay.1.cls mX8_lay.1 mX8_lay.1 ∈ tblG := tblG_m6 89 rfl rfl
set_option maxRecDepth 20000 in
theorem im_X8_seen : Cond.instanceMethod mX8_seen.1 ∈ tblG := tblG_m6 96 rfl rfl
set_option maxRecDepth 20000 in
theorem sl_X8_seen : Cond.selects mX8_seen.1.cls mX8_seen.1 mX8_seen.1 ∈ tblG := tblG_m6 97 rfl rfl
set_option maxRecDepth 20000 in
theorem im_X8_feed : Cond.instanceMethod mX8_feed.1 ∈ tblG := tblG_m6 100 rfl rfl
set_option maxRecDepth 20000 in
theorem sl_X8_feed : Cond.selects mX8_feed.1.cls mX8_feed.1 mX8_feed.1 ∈ tblG := tblG_m6 101 rfl rfl
set_option maxRecDepth 20000 in
theorem im_X8_clear : Cond.instanceMethod mX8_clear.1 ∈ tblG := tblG_m6 105 rfl rfl
set_option maxRecDepth 20000 in
theorem sl_X8_clear : Cond.selects mX8_clear.1.cls mX8_clear.1 mX8_clear.1 ∈ tblG := tblG_m6 106 rfl rfl
set_option maxRecDepth 20000 in
theorem im_X8_here : Cond.instanceMethod mX8_here.1 ∈ tblG := tblG_m6 122 rfl rfl
set_option maxRecDepth 20000 in
theorem sl_X8_here : Cond.selects mX8_here.1.cls mX8_here.1 mX8_here.1 ∈ tblG := tblG_p5 14 rfl rfl
set_option maxRecDepth 20000 in
theorem im_X8_fails : Cond.instanceMethod mX8_fails.1 ∈ tblG := tblG_m6 126 rfl rfl
set_option maxRecDepth 20000 in
theorem sl_X8_fails : Cond.selects mX8_fails.1.cls mX8_fails.1 mX8_fails.1 ∈ tblG := tblG_p5 15 rfl rfl
set_option maxRecDepth 20000 in
theorem im_X8_blank : Cond.instanceMethod mX8_blank.1 ∈ tblG := tblG_m6 134 rfl rfl
set_option maxRecDepth 20000 in
theorem sl_X8_blank : Cond.selects mX8_blank.1.cls mX8_blank.1 mX8_blank.1 ∈ tblG := tblG_p6 1 rfl rfl
set_option maxRecDepth 20000 in
theorem im_X8_figures : Cond.instanceMethod mX8_figures.1 ∈ tblG := tblG_m6 130 rfl rfl
set_option maxRecDepth 20000 in
theorem sl_X8_figures : Cond.selects mX8_figures.1.cls mX8_figures.1 mX8_figures.1 ∈ tblG := tblG_p6 0 rfl rfl
set_option maxRecDepth 20000 in
theorem im_X8_word : Cond.instanceMethod mX8_word.1 ∈ tblG := tblG_m6 118 rfl rfl
set_option maxRecDepth 20000 in
theorem sl_X8_word : Cond.selects mX8_word.1.cls mX8_word.1 mX8_word.1 ∈ tblG := tblG_p5 13 rfl rfl
set_option maxRecDepth 20000 in
theorem im_X8_reads : Cond.instanceMethod mX8_reads.1 ∈ tblG := tblG_m6 114 rfl rfl
set_option maxRecDepth 20000 in
theorem sl_X8_reads : Cond.selects mX8_reads.1.cls mX8_reads.1 mX8_reads.1 ∈ tblG := tblG_p5 12 rfl rfl
set_option maxRecDepth 20000 in
theorem im_X8_tells : Cond.instanceMethod mX8_tells.1 ∈ tblG := tblG_m6 141 rfl rfl
set_option maxRecDepth 20000 in
theorem sl_X8_tells : Cond.selects mX8_tells.1.cls mX8_tells.1 mX8_tells.1 ∈ tblG := tblG_p6 2 rfl rfl
set_option maxRecDepth 20000 in
theorem im_X8_pricking : Cond.instanceMethod mX8_pricking.1 ∈ tblG := tblG_m6 109 rfl rfl
set_option maxRecDepth 20000 in
theorem sl_X8_pricking : Cond.selects mX8_pricking.1.cls mX8_pricking.1 mX8_pricking.1 ∈ tblG := tblG_m6 110 rfl rfl
set_option maxRecDepth 20000 in
theorem im_X8_list : Cond.instanceMethod mX8_list.1 ∈ tblG := tblG_m6 147 rfl rfl
set_option maxRecDepth 20000 in
theorem sl_X8_list : Cond.selects mX8_list.1.cls mX8_list.1 mX8_list.1 ∈ tblG := tblG_m6 148 rfl rfl
set_option maxRecDepth 20000 in
theorem im_X8_set : Cond.instanceMethod mX8_set.1 ∈ tblG := tblG_m6 151 rfl rfl
set_option maxRecDepth 20000 in
theorem sl_X8_set : Cond.selects mX8_set.1.cls mX8_set.1 mX8_set.1 ∈ tblG := tblG_m6 152 rfl rfl
set_option maxRecDepth 20000 in
theorem im_X8_get : Cond.instanceMethod mX8_get.1 ∈ tblG := tblG_m6 155 rfl rfl
set_option maxRecDepth 20000 in
theorem sl_X8_get : Cond.selects mX8_get.1.cls mX8_get.1 mX8_get.1 ∈ tblG := tblG_m6 156 rfl rfl
set_option maxRecDepth 20000 in
theorem im_X8_count : Cond.instanceMethod mX8_count.1 ∈ tblG := tblG_m6 159 rfl rfl
set_option maxRecDepth 20000 in
theorem sl_X8_count : Cond.selects mX8_count.1.cls mX8_count.1 mX8_count.1 ∈ tblG := tblG_m6 160 rfl rfl
set_option maxRecDepth 20000 in
theorem im_X8_image : Cond.instanceMethod mX8_image.1 ∈ tblG := tblG_m6 163 rfl rfl
set_option maxRecDepth 20000 in
theorem sl_X8_image : Cond.selects mX8_image.1.cls mX8_image.1 mX8_image.1 ∈ tblG := tblG_m6 164 rfl rfl
set_option maxRecDepth 20000 in
theorem im_X8_restore : Cond.instanceMethod mX8_restore.1 ∈ tblG := tblG_m6 167 rfl rfl
set_option maxRecDepth 20000 in
theorem sl_X8_restore : Cond.selects mX8_restore.1.cls mX8_restore.1 mX8_restore.1 ∈ tblG := tblG_m6 168 rfl rfl
set_option maxRecDepth 20000 in
theorem sm_J_bitCount : Cond.static mJ_bitCount.1 ∈ tblG := tblG_m3 199 rfl rfl
set_option maxRecDepth 20000 in
theorem sm_J_fill : Cond.static mJ_fill.1 ∈ tblG := tblG_m2 135 rfl rfl
end
section
/-! segments: what a method does from one cut point to the next (written by wip/whole/seg.py) -/
set_option maxRecDepth 4000 in
theorem sg_X0_begin_0 {d : Nat} {x1 : Int} {h : xH} {Q : xH → Prop}
    (hR : gV wdC d mX0_begin 2 [some (.inr (.inr 6)), some (.inl x1), some (.inl 0)] h Q) :
    gV wdC d mX0_begin 0 [some (.inr (.inr 6)), some (.inl x1), none] h Q := by
  unfold gV
  refine x_iconst (pc := 0) (n := 0) (show decode mX0_begin.2.1 0 = .ok (.iconst 0, 1) by decide +kernel) ?_
  refine x_istore_n (pc := 1) (ls' := [some (.inr (.inr 6)), some (.inl x1), some (.inl 0)]) (show decode mX0_begin.2.1 1 = .ok (.istore_n 2, 1) by decide +kernel) rfl (by decide) rfl ?_
  exact hR
set_option maxRecDepth 4000 in
theorem sg_X0_begin_2 {d : Nat} {x1 x2 : Int} {h : xH} {Q : xH → Prop}
    (hR : (inI x2 ∧ inI (2 * x1)) ∧ ((2 * x1) ≤ x2 → Q (xu (xu (xu h 6 2 0) 6 3 0) 6 6 0)) ∧ (x2 < (2 * x1) → (0 ≤ x2 ∧ x2 < 24) ∧ (0 ≤ x2 ∧ x2 < 24) ∧ gV wdC d mX0_begin 2 [some (.inr (.inr 6)), some (.inl x1), some (.inl (x2 + 1))] (xu (xu h 7 x2 x2) 8 x2 0) Q)) :
    gV wdC d mX0_begin 2 [some (.inr (.inr 6)), some (.inl x1), some (.inl x2)] h Q := by
  unfold gV
  refine x_iload_n (pc := 2) (show decode mX0_begin.2.1 2 = .ok (.iload_n 2, 1) by decide +kernel) rfl rfl ?_
  refine x_iconst (pc := 3) (n := 2) (show decode mX0_begin.2.1 3 = .ok (.iconst 2, 1) by decide +kernel) ?_
  refine x_iload_n (pc := 4) (show decode mX0_begin.2.1 4 = .ok (.iload_n 1, 1) by decide +kernel) rfl rfl ?_
  refine x_imul (pc := 5) (show decode mX0_begin.2.1 5 = .ok (.imul, 1) by decide +kernel) ?_
  obtain ⟨hg, hR⟩ := hR
  refine x_icmp_ge (pc := 6) (tgt := 29) (show decode mX0_begin.2.1 6 = .ok (.if_icmp .ge 23, 3) by decide +kernel) (by decide) ⟨hg.1, hg.2⟩ (fun hc => ?_) (fun hc => ?_)
  · replace hR := hR.1 hc
    refine x_aload_n (pc := 29) (show decode mX0_begin.2.1 29 = .ok (.aload_n 0, 1) by decide +kernel) rfl rfl ?_
    refine x_lconst (pc := 30) (v := 0) (show decode mX0_begin.2.1 30 = .ok (.lconst 0, 1) by decide +kernel) rfl ?_
    refine x_putL (pc := 31) (ki := 2) f0_18 fp0_2 rfl rfl rfl (show decode mX0_begin.2.1 31 = .ok (.putfield 18, 3) by decide +kernel) ?_
    refine x_aload_n (pc := 34) (show decode mX0_begin.2.1 34 = .ok (.aload_n 0, 1) by decide +kernel) rfl rfl ?_
    refine x_iconst (pc := 35) (n := 0) (show decode mX0_begin.2.1 35 = .ok (.iconst 0, 1) by decide +kernel) ?_
    refine x_putI (pc := 36) (ki := 3) f0_22 fp0_3 rfl rfl rfl (show decode mX0_begin.2.1 36 = .ok (.putfield 22, 3) by decide +kernel) ?_
    refine x_aload_n (pc := 39) (show decode mX0_begin.2.1 39 = .ok (.aload_n 0, 1) by decide +kernel) rfl rfl ?_
    refine x_iconst (pc := 40) (n := 0) (show decode mX0_begin.2.1 40 = .ok (.iconst 0, 1) by decide +kernel) ?_
    refine x_putI (pc := 41) (ki := 6) f0_32 fp0_6 rfl rfl rfl (show decode mX0_begin.2.1 41 = .ok (.putfield 32, 3) by decide +kernel) ?_
    exact x_vret (pc := 44) rfl (show decode mX0_begin.2.1 44 = .ok (.return_, 1) by decide +kernel) ⟨rfl, hR⟩
  · replace hR := hR.2 hc
    refine x_aload_n (pc := 9) (show decode mX0_begin.2.1 9 = .ok (.aload_n 0, 1) by decide +kernel) rfl rfl ?_
    refine x_getR (pc := 10) f0_9 rfl rfl (show decode mX0_begin.2.1 10 = .ok (.getfield 9, 3) by decide +kernel) ?_
    refine x_iload_n (pc := 13) (show decode mX0_begin.2.1 13 = .ok (.iload_n 2, 1) by decide +kernel) rfl rfl ?_
    refine x_iload_n (pc := 14) (show decode mX0_begin.2.1 14 = .ok (.iload_n 2, 1) by decide +kernel) rfl rfl ?_
    obtain ⟨hg, hR⟩ := hR
    refine x_iast (pc := 15) rfl (by decide) hg (show decode mX0_begin.2.1 15 = .ok (.iastore, 1) by decide +kernel) ?_
    refine x_aload_n (pc := 16) (show decode mX0_begin.2.1 16 = .ok (.aload_n 0, 1) by decide +kernel) rfl rfl ?_
    refine x_getR (pc := 17) f0_15 rfl rfl (show decode mX0_begin.2.1 17 = .ok (.getfield 15, 3) by decide +kernel) ?_
    refine x_iload_n (pc := 20) (show decode mX0_begin.2.1 20 = .ok (.iload_n 2, 1) by decide +kernel) rfl rfl ?_
    refine x_iconst (pc := 21) (n := 0) (show decode mX0_begin.2.1 21 = .ok (.iconst 0, 1) by decide +kernel) ?_
    obtain ⟨hg, hR⟩ := hR
    refine x_iast (pc := 22) rfl (by decide) hg (show decode mX0_begin.2.1 22 = .ok (.iastore, 1) by decide +kernel) ?_
    refine x_iinc (pc := 23) (ls' := [some (.inr (.inr 6)), some (.inl x1), some (.inl (x2 + 1))]) (show decode mX0_begin.2.1 23 = .ok (.iinc 2 1, 3) by decide +kernel) (by decide) rfl rfl ?_
    refine x_goto (pc := 26) (tgt := 2) (show decode mX0_begin.2.1 26 = .ok (.goto (-24), 3) by decide +kernel) (by decide) ?_
    exact hR
set_option maxRecDepth 4000 in
theorem sg_X0_copyFrom_6_16_0 {d : Nat} {h : xH} {Q : xH → Prop} (hd : 1 ≤ d)
    (hR : Q (xu (xcp (xcp (xu (xu (xcp (xcp h 17 7 24) 18 8 24) 6 2 (h 16 2)) 6 3 (h 16 3)) 19 9 30) 20 10 30) 6 6 (h 16 6))) :
    gV wdC d mX0_copyFrom 0 [some (.inr (.inr 6)), some (.inr (.inr 16))] h Q := by
  unfold gV
  refine x_aload_n (pc := 0) (show decode mX0_copyFrom.2.1 0 = .ok (.aload_n 1, 1) by decide +kernel) rfl rfl ?_
  refine x_getR (pc := 1) f0_9 rfl rfl (show decode mX0_copyFrom.2.1 1 = .ok (.getfield 9, 3) by decide +kernel) ?_
  refine x_iconst (pc := 4) (n := 0) (show decode mX0_copyFrom.2.1 4 = .ok (.iconst 0, 1) by decide +kernel) ?_
  refine x_aload_n (pc := 5) (show decode mX0_copyFrom.2.1 5 = .ok (.aload_n 0, 1) by decide +kernel) rfl rfl ?_
  refine x_getR (pc := 6) f0_9 rfl rfl (show decode mX0_copyFrom.2.1 6 = .ok (.getfield 9, 3) by decide +kernel) ?_
  refine x_iconst (pc := 9) (n := 0) (show decode mX0_copyFrom.2.1 9 = .ok (.iconst 0, 1) by decide +kernel) ?_
  refine x_bipush (pc := 10) (n := 24) (show decode mX0_copyFrom.2.1 10 = .ok (.bipush 24, 2) by decide +kernel) rfl ?_
  refine x_copy (pc := 12) rfl rfl (tblG_m4 215 rfl rfl) ac_native ac_static ac_init (by decide) (Nat.le_of_ble_eq_true rfl) hd (show decode mX0_copyFrom.2.1 12 = .ok (.invokestatic 35, 3) by decide +kernel) ?_
  refine x_aload_n (pc := 15) (show decode mX0_copyFrom.2.1 15 = .ok (.aload_n 1, 1) by decide +kernel) rfl rfl ?_
  refine x_getR (pc := 16) f0_15 rfl rfl (show decode mX0_copyFrom.2.1 16 = .ok (.getfield 15, 3) by decide +kernel) ?_
  refine x_iconst (pc := 19) (n := 0) (show decode mX0_copyFrom.2.1 19 = .ok (.iconst 0, 1) by decide +kernel) ?_
  refine x_aload_n (pc := 20) (show decode mX0_copyFrom.2.1 20 = .ok (.aload_n 0, 1) by decide +kernel) rfl rfl ?_
  refine x_getR (pc := 21) f0_15 rfl rfl (show decode mX0_copyFrom.2.1 21 = .ok (.getfield 15, 3) by decide +kernel) ?_
  refine x_iconst (pc := 24) (n := 0) (show decode mX0_copyFrom.2.1 24 = .ok (.iconst 0, 1) by decide +kernel) ?_
  refine x_bipush (pc := 25) (n := 24) (show decode mX0_copyFrom.2.1 25 = .ok (.bipush 24, 2) by decide +kernel) rfl ?_
  refine x_copy (pc := 27) rfl rfl (tblG_m4 215 rfl rfl) ac_native ac_static ac_init (by decide) (Nat.le_of_ble_eq_true rfl) hd (show decode mX0_copyFrom.2.1 27 = .ok (.invokestatic 35, 3) by decide +kernel) ?_
  refine x_aload_n (pc := 30) (show decode mX0_copyFrom.2.1 30 = .ok (.aload_n 0, 1) by decide +kernel) rfl rfl ?_
  refine x_aload_n (pc := 31) (show decode mX0_copyFrom.2.1 31 = .ok (.aload_n 1, 1) by decide +kernel) rfl rfl ?_
  refine x_getL (pc := 32) (ki := 2) f0_18 rfl rfl rfl (show decode mX0_copyFrom.2.1 32 = .ok (.getfield 18, 3) by decide +kernel) ?_
  refine x_putL (pc := 35) (ki := 2) f0_18 fp0_2 rfl rfl rfl (show decode mX0_copyFrom.2.1 35 = .ok (.putfield 18, 3) by decide +kernel) ?_
  refine x_aload_n (pc := 38) (show decode mX0_copyFrom.2.1 38 = .ok (.aload_n 0, 1) by decide +kernel) rfl rfl ?_
  refine x_aload_n (pc := 39) (show decode mX0_copyFrom.2.1 39 = .ok (.aload_n 1, 1) by decide +kernel) rfl rfl ?_
  refine x_getI (pc := 40) (ki := 3) f0_22 rfl rfl (by decide) rfl (show decode mX0_copyFrom.2.1 40 = .ok (.getfield 22, 3) by decide +kernel) ?_
  refine x_putI (pc := 43) (ki := 3) f0_22 fp0_3 rfl rfl rfl (show decode mX0_copyFrom.2.1 43 = .ok (.putfield 22, 3) by decide +kernel) ?_
  refine x_aload_n (pc := 46) (show decode mX0_copyFrom.2.1 46 = .ok (.aload_n 1, 1) by decide +kernel) rfl rfl ?_
  refine x_getR (pc := 47) f0_26 rfl rfl (show decode mX0_copyFrom.2.1 47 = .ok (.getfield 26, 3) by decide +kernel) ?_
  refine x_iconst (pc := 50) (n := 0) (show decode mX0_copyFrom.2.1 50 = .ok (.iconst 0, 1) by decide +kernel) ?_
  refine x_aload_n (pc := 51) (show decode mX0_copyFrom.2.1 51 = .ok (.aload_n 0, 1) by decide +kernel) rfl rfl ?_
  refine x_getR (pc := 52) f0_26 rfl rfl (show decode mX0_copyFrom.2.1 52 = .ok (.getfield 26, 3) by decide +kernel) ?_
  refine x_iconst (pc := 55) (n := 0) (show decode mX0_copyFrom.2.1 55 = .ok (.iconst 0, 1) by decide +kernel) ?_
  refine x_bipush (pc := 56) (n := 30) (show decode mX0_copyFrom.2.1 56 = .ok (.bipush 30, 2) by decide +kernel) rfl ?_
  refine x_copy (pc := 58) rfl rfl (tblG_m4 215 rfl rfl) ac_native ac_static ac_init (by decide) (Nat.le_of_ble_eq_true rfl) hd (show decode mX0_copyFrom.2.1 58 = .ok (.invokestatic 35, 3) by decide +kernel) ?_
  refine x_aload_n (pc := 61) (show decode mX0_copyFrom.2.1 61 = .ok (.aload_n 1, 1) by decide +kernel) rfl rfl ?_
  refine x_getR (pc := 62) f0_29 rfl rfl (show decode mX0_copyFrom.2.1 62 = .ok (.getfield 29, 3) by decide +kernel) ?_
  refine x_iconst (pc := 65) (n := 0) (show decode mX0_copyFrom.2.1 65 = .ok (.iconst 0, 1) by decide +kernel) ?_
  refine x_aload_n (pc := 66) (show decode mX0_copyFrom.2.1 66 = .ok (.aload_n 0, 1) by decide +kernel) rfl rfl ?_
  refine x_getR (pc := 67) f0_29 rfl rfl (show decode mX0_copyFrom.2.1 67 = .ok (.getfield 29, 3) by decide +kernel) ?_
  refine x_iconst (pc := 70) (n := 0) (show decode mX0_copyFrom.2.1 70 = .ok (.iconst 0, 1) by decide +kernel) ?_
  refine x_bipush (pc := 71) (n := 30) (show decode mX0_copyFrom.2.1 71 = .ok (.bipush 30, 2) by decide +kernel) rfl ?_
  refine x_copy (pc := 73) rfl rfl (tblG_m4 215 rfl rfl) ac_native ac_static ac_init (by decide) (Nat.le_of_ble_eq_true rfl) hd (show decode mX0_copyFrom.2.1 73 = .ok (.invokestatic 35, 3) by decide +kernel) ?_
  refine x_aload_n (pc := 76) (show decode mX0_copyFrom.2.1 76 = .ok (.aload_n 0, 1) by decide +kernel) rfl rfl ?_
  refine x_aload_n (pc := 77) (show decode mX0_copyFrom.2.1 77 = .ok (.aload_n 1, 1) by decide +kernel) rfl rfl ?_
  refine x_getI (pc := 78) (ki := 6) f0_32 rfl rfl (by decide) rfl (show decode mX0_copyFrom.2.1 78 = .ok (.getfield 32, 3) by decide +kernel) ?_
  refine x_putI (pc := 81) (ki := 6) f0_32 fp0_6 rfl rfl rfl (show decode mX0_copyFrom.2.1 81 = .ok (.putfield 32, 3) by decide +kernel) ?_
  exact x_vret (pc := 84) rfl (show decode mX0_copyFrom.2.1 84 = .ok (.return_, 1) by decide +kernel) ⟨rfl, hR⟩
set_option maxRecDepth 4000 in
theorem sg_X0_copyFrom_16_6_0 {d : Nat} {h : xH} {Q : xH → Prop} (hd : 1 ≤ d)
    (hR : Q (xu (xcp (xcp (xu (xu (xcp (xcp h 7 17 24) 8 18 24) 16 2 (h 6 2)) 16 3 (h 6 3)) 9 19 30) 10 20 30) 16 6 (h 6 6))) :
    gV wdC d mX0_copyFrom 0 [some (.inr (.inr 16)), some (.inr (.inr 6))] h Q := by
  unfold gV
  refine x_aload_n (pc := 0) (show decode mX0_copyFrom.2.1 0 = .ok (.aload_n 1, 1) by decide +kernel) rfl rfl ?_
  refine x_getR (pc := 1) f0_9 rfl rfl (show decode mX0_copyFrom.2.1 1 = .ok (.getfield 9, 3) by decide +kernel) ?_
  refine x_iconst (pc := 4) (n := 0) (show decode mX0_copyFrom.2.1 4 = .ok (.iconst 0, 1) by decide +kernel) ?_
  refine x_aload_n (pc := 5) (show decode mX0_copyFrom.2.1 5 = .ok (.aload_n 0, 1) by decide +kernel) rfl rfl ?_
  refine x_getR (pc := 6) f0_9 rfl rfl (show decode mX0_copyFrom.2.1 6 = .ok (.getfield 9, 3) by decide +kernel) ?_
  refine x_iconst (pc := 9) (n := 0) (show decode mX0_copyFrom.2.1 9 = .ok (.iconst 0, 1) by decide +kernel) ?_
  refine x_bipush (pc := 10) (n := 24) (show decode mX0_copyFrom.2.1 10 = .ok (.bipush 24, 2) by decide +kernel) rfl ?_
  refine x_copy (pc := 12) rfl rfl (tblG_m4 215 rfl rfl) ac_native ac_static ac_init (by decide) (Nat.le_of_ble_eq_true rfl) hd (show decode mX0_copyFrom.2.1 12 = .ok (.invokestatic 35, 3) by decide +kernel) ?_
  refine x_aload_n (pc := 15) (show decode mX0_copyFrom.2.1 15 = .ok (.aload_n 1, 1) by decide +kernel) rfl rfl ?_
  refine x_getR (pc := 16) f0_15 rfl rfl (show decode mX0_copyFrom.2.1 16 = .ok (.getfield 15, 3) by decide +kernel) ?_
  refine x_iconst (pc := 19) (n := 0) (show decode mX0_copyFrom.2.1 19 = .ok (.iconst 0, 1) by decide +kernel) ?_
  refine x_aload_n (pc := 20) (show decode mX0_copyFrom.2.1 20 = .ok (.aload_n 0, 1) by decide +kernel) rfl rfl ?_
  refine x_getR (pc := 21) f0_15 rfl rfl (show decode mX0_copyFrom.2.1 21 = .ok (.getfield 15, 3) by decide +kernel) ?_
  refine x_iconst (pc := 24) (n := 0) (show decode mX0_copyFrom.2.1 24 = .ok (.iconst 0, 1) by decide +kernel) ?_
  refine x_bipush (pc := 25) (n := 24) (show decode mX0_copyFrom.2.1 25 = .ok (.bipush 24, 2) by decide +kernel) rfl ?_
  refine x_copy (pc := 27) rfl rfl (tblG_m4 215 rfl rfl) ac_native ac_static ac_init (by decide) (Nat.le_of_ble_eq_true rfl) hd (show decode mX0_copyFrom.2.1 27 = .ok (.invokestatic 35, 3) by decide +kernel) ?_
  refine x_aload_n (pc := 30) (show decode mX0_copyFrom.2.1 30 = .ok (.aload_n 0, 1) by decide +kernel) rfl rfl ?_
  refine x_aload_n (pc := 31) (show decode mX0_copyFrom.2.1 31 = .ok (.aload_n 1, 1) by decide +kernel) rfl rfl ?_
  refine x_getL (pc := 32) (ki := 2) f0_18 rfl rfl rfl (show decode mX0_copyFrom.2.1 32 = .ok (.getfield 18, 3) by decide +kernel) ?_
  refine x_putL (pc := 35) (ki := 2) f0_18 fp0_2 rfl rfl rfl (show decode mX0_copyFrom.2.1 35 = .ok (.putfield 18, 3) by decide +kernel) ?_
  refine x_aload_n (pc := 38) (show decode mX0_copyFrom.2.1 38 = .ok (.aload_n 0, 1) by decide +kernel) rfl rfl ?_
  refine x_aload_n (pc := 39) (show decode mX0_copyFrom.2.1 39 = .ok (.aload_n 1, 1) by decide +kernel) rfl rfl ?_
  refine x_getI (pc := 40) (ki := 3) f0_22 rfl rfl (by decide) rfl (show decode mX0_copyFrom.2.1 40 = .ok (.getfield 22, 3) by decide +kernel) ?_
  refine x_putI (pc := 43) (ki := 3) f0_22 fp0_3 rfl rfl rfl (show decode mX0_copyFrom.2.1 43 = .ok (.putfield 22, 3) by decide +kernel) ?_
  refine x_aload_n (pc := 46) (show decode mX0_copyFrom.2.1 46 = .ok (.aload_n 1, 1) by decide +kernel) rfl rfl ?_
  refine x_getR (pc := 47) f0_26 rfl rfl (show decode mX0_copyFrom.2.1 47 = .ok (.getfield 26, 3) by decide +kernel) ?_
  refine x_iconst (pc := 50) (n := 0) (show decode mX0_copyFrom.2.1 50 = .ok (.iconst 0, 1) by decide +kernel) ?_
  refine x_aload_n (pc := 51) (show decode mX0_copyFrom.2.1 51 = .ok (.aload_n 0, 1) by decide +kernel) rfl rfl ?_
  refine x_getR (pc := 52) f0_26 rfl rfl (show decode mX0_copyFrom.2.1 52 = .ok (.getfield 26, 3) by decide +kernel) ?_
  refine x_iconst (pc := 55) (n := 0) (show decode mX0_copyFrom.2.1 55 = .ok (.iconst 0, 1) by decide +kernel) ?_
  refine x_bipush (pc := 56) (n := 30) (show decode mX0_copyFrom.2.1 56 = .ok (.bipush 30, 2) by decide +kernel) rfl ?_
  refine x_copy (pc := 58) rfl rfl (tblG_m4 215 rfl rfl) ac_native ac_static ac_init (by decide) (Nat.le_of_ble_eq_true rfl) hd (show decode mX0_copyFrom.2.1 58 = .ok (.invokestatic 35, 3) by decide +kernel) ?_
  refine x_aload_n (pc := 61) (show decode mX0_copyFrom.2.1 61 = .ok (.aload_n 1, 1) by decide +kernel) rfl rfl ?_
  refine x_getR (pc := 62) f0_29 rfl rfl (show decode mX0_copyFrom.2.1 62 = .ok (.getfield 29, 3) by decide +kernel) ?_
  refine x_iconst (pc := 65) (n := 0) (show decode mX0_copyFrom.2.1 65 = .ok (.iconst 0, 1) by decide +kernel) ?_
  refine x_aload_n (pc := 66) (show decode mX0_copyFrom.2.1 66 = .ok (.aload_n 0, 1) by decide +kernel) rfl rfl ?_
  refine x_getR (pc := 67) f0_29 rfl rfl (show decode mX0_copyFrom.2.1 67 = .ok (.getfield 29, 3) by decide +kernel) ?_
  refine x_iconst (pc := 70) (n := 0) (show decode mX0_copyFrom.2.1 70 = .ok (.iconst 0, 1) by decide +kernel) ?_
  refine x_bipush (pc := 71) (n := 30) (show decode mX0_copyFrom.2.1 71 = .ok (.bipush 30, 2) by decide +kernel) rfl ?_
  refine x_copy (pc := 73) rfl rfl (tblG_m4 215 rfl rfl) ac_native ac_static ac_init (by decide) (Nat.le_of_ble_eq_true rfl) hd (show decode mX0_copyFrom.2.1 73 = .ok (.invokestatic 35, 3) by decide +kernel) ?_
  refine x_aload_n (pc := 76) (show decode mX0_copyFrom.2.1 76 = .ok (.aload_n 0, 1) by decide +kernel) rfl rfl ?_
  refine x_aload_n (pc := 77) (show decode mX0_copyFrom.2.1 77 = .ok (.aload_n 1, 1) by decide +kernel) rfl rfl ?_
  refine x_getI (pc := 78) (ki := 6) f0_32 rfl rfl (by decide) rfl (show decode mX0_copyFrom.2.1 78 = .ok (.getfield 32, 3) by decide +kernel) ?_
  refine x_putI (pc := 81) (ki := 6) f0_32 fp0_6 rfl rfl rfl (show decode mX0_copyFrom.2.1 81 = .ok (.putfield 32, 3) by decide +kernel) ?_
  exact x_vret (pc := 84) rfl (show decode mX0_copyFrom.2.1 84 = .ok (.return_, 1) by decide +kernel) ⟨rfl, hR⟩
set_option maxRecDepth 4000 in
theorem sg_X0_isDone_0 {d : Nat} {x1 : Int} {h : xH} {Q : Int → xH → Prop} (hd : 1 ≤ d)
    (hR : cI wdC (d - 1) mX7_hasPin [.inr (.inl (h 6 2)), .inl x1] h (fun r2 h1 => (r2 = 0 ∨ r2 = 1) ∧ Q r2 h1)) :
    gI wdC d mX0_isDone 0 [some (.inr (.inr 6)), some (.inl x1)] h Q := by
  unfold gI
  refine x_aload_n (pc := 0) (show decode mX0_isDone.2.1 0 = .ok (.aload_n 0, 1) by decide +kernel) rfl rfl ?_
  refine x_getL (pc := 1) (ki := 2) f0_18 rfl rfl rfl (show decode mX0_isDone.2.1 1 = .ok (.getfield 18, 3) by decide +kernel) ?_
  refine x_iload_n (pc := 4) (show decode mX0_isDone.2.1 4 = .ok (.iload_n 1, 1) by decide +kernel) rfl rfl ?_
  refine x_callSN (pc := 5) (As := [.inr (.inl (h 6 2)), .inl x1]) (rest := []) (lk0_41 rfl) sm_X7_hasPin (Nat.le_of_ble_eq_true rfl) (Nat.le_of_ble_eq_true rfl) (show decode mX0_isDone.2.1 5 = .ok (.invokestatic 41, 3) by decide +kernel) hd hR (fun r9 h1 hq => ?_)
  obtain ⟨r2, rfl, hR⟩ := hq
  show xG _ _ _ 8 _ [.inl r2] _ _
  exact x_zret (pc := 8) rfl (show decode mX0_isDone.2.1 8 = .ok (.ireturn, 1) by decide +kernel) hR.1 ⟨_, rfl, hR.2⟩
set_option maxRecDepth 4000 in
theorem sg_X0_lastWorked_0 {d : Nat} {h : xH} {Q : Int → xH → Prop}
    (hR : (0 ≤ ((h 6 3) - 1) ∧ ((h 6 3) - 1) < 30) ∧ Q (h 9 ((h 6 3) - 1)) h) :
    gI wdC d mX0_lastWorked 0 [some (.inr (.inr 6))] h Q := by
  unfold gI
  refine x_aload_n (pc := 0) (show decode mX0_lastWorked.2.1 0 = .ok (.aload_n 0, 1) by decide +kernel) rfl rfl ?_
  refine x_getR (pc := 1) f0_26 rfl rfl (show decode mX0_lastWorked.2.1 1 = .ok (.getfield 26, 3) by decide +kernel) ?_
  refine x_aload_n (pc := 4) (show decode mX0_lastWorked.2.1 4 = .ok (.aload_n 0, 1) by decide +kernel) rfl rfl ?_
  refine x_getI (pc := 5) (ki := 3) f0_22 rfl rfl (by decide) rfl (show decode mX0_lastWorked.2.1 5 = .ok (.getfield 22, 3) by decide +kernel) ?_
  refine x_iconst (pc := 8) (n := 1) (show decode mX0_lastWorked.2.1 8 = .ok (.iconst 1, 1) by decide +kernel) ?_
  refine x_isub (pc := 9) (show decode mX0_lastWorked.2.1 9 = .ok (.isub, 1) by decide +kernel) ?_
  obtain ⟨hg, hR⟩ := hR
  refine x_iald (pc := 10) rfl (by decide) hg (show decode mX0_lastWorked.2.1 10 = .ok (.iaload, 1) by decide +kernel) ?_
  exact x_iret (pc := 11) rfl (show decode mX0_lastWorked.2.1 11 = .ok (.ireturn, 1) by decide +kernel) ⟨_, rfl, hR⟩
set_option maxRecDepth 4000 in
theorem sg_X0_workPin_0 {d : Nat} {x1 x2 x3 : Int} {h : xH} {Q : xH → Prop}
    (hR : (inI (h 6 3)) ∧ ((h 6 3) < 30 → gV wdC d mX0_workPin 18 [some (.inr (.inr 6)), some (.inl x1), some (.inl x2), some (.inl x3), some (.inl (2 * x2)), some (.inl 0)] h Q) ∧ (30 ≤ (h 6 3) → Q h)) :
    gV wdC d mX0_workPin 0 [some (.inr (.inr 6)), some (.inl x1), some (.inl x2), some (.inl x3), none, none] h Q := by
  unfold gV
  refine x_aload_n (pc := 0) (show decode mX0_workPin.2.1 0 = .ok (.aload_n 0, 1) by decide +kernel) rfl rfl ?_
  refine x_getI (pc := 1) (ki := 3) f0_22 rfl rfl (by decide) rfl (show decode mX0_workPin.2.1 1 = .ok (.getfield 22, 3) by decide +kernel) ?_
  refine x_bipush (pc := 4) (n := 30) (show decode mX0_workPin.2.1 4 = .ok (.bipush 30, 2) by decide +kernel) rfl ?_
  obtain ⟨hg, hR⟩ := hR
  refine x_icmp_lt (pc := 6) (tgt := 10) (show decode mX0_workPin.2.1 6 = .ok (.if_icmp .lt 4, 3) by decide +kernel) (by decide) ⟨hg, (by unfold inI; decide)⟩ (fun hc => ?_) (fun hc => ?_)
  · replace hR := hR.1 hc
    refine x_iconst (pc := 10) (n := 2) (show decode mX0_workPin.2.1 10 = .ok (.iconst 2, 1) by decide +kernel) ?_
    refine x_iload_n (pc := 11) (show decode mX0_workPin.2.1 11 = .ok (.iload_n 2, 1) by decide +kernel) rfl rfl ?_
    refine x_imul (pc := 12) (show decode mX0_workPin.2.1 12 = .ok (.imul, 1) by decide +kernel) ?_
    refine x_istore (pc := 13) (ls' := [some (.inr (.inr 6)), some (.inl x1), some (.inl x2), some (.inl x3), some (.inl (2 * x2)), none]) (show decode mX0_workPin.2.1 13 = .ok (.istore 4, 2) by decide +kernel) (by decide) rfl ?_
    refine x_iconst (pc := 15) (n := 0) (show decode mX0_workPin.2.1 15 = .ok (.iconst 0, 1) by decide +kernel) ?_
    refine x_istore (pc := 16) (ls' := [some (.inr (.inr 6)), some (.inl x1), some (.inl x2), some (.inl x3), some (.inl (2 * x2)), some (.inl 0)]) (show decode mX0_workPin.2.1 16 = .ok (.istore 5, 2) by decide +kernel) (by decide) rfl ?_
    exact hR
  · replace hR := hR.2 hc
    exact x_vret (pc := 9) rfl (show decode mX0_workPin.2.1 9 = .ok (.return_, 1) by decide +kernel) ⟨rfl, hR⟩
set_option maxRecDepth 4000 in
theorem sg_X0_workPin_18 {d : Nat} {x1 x2 x3 x4 x5 : Int} {h : xH} {Q : xH → Prop} (hd : 1 ≤ d)
    (hR : cI wdC (d - 1) mX7_actCount [.inl x3] h (fun r2 h1 => (inI x5 ∧ inI r2) ∧ (r2 ≤ x5 → (0 ≤ (h1 6 3) ∧ (h1 6 3) < 30) ∧ (0 ≤ (h1 6 3) ∧ (h1 6 3) < 30) ∧ cL wdC (d - 1) mX7_pinBit [.inl x1] (xu (xu (xu h1 9 (h1 6 3) x1) 10 (h1 6 3) (h1 6 6)) 6 3 ((h1 6 3) + 1)) (fun r4 h3 => Q (xu (xu h3 6 2 (xorL (h1 6 2) r4)) 6 6 x2))) ∧ (x5 < r2 → cB wdC (d - 1) mX7_isCrossAct [.inl x3, .inl x5] h1 (fun h5 => cV wdC (d - 1) mX0_goOver [.inr (.inr 6), .inl (x4 + 1), .inl (x4 + 2)] h5 (fun h6 => gV wdC d mX0_workPin 18 [some (.inr (.inr 6)), some (.inl x1), some (.inl x2), some (.inl x3), some (.inl x4), some (.inl (x5 + 1))] h6 Q)) (fun h5 => cV wdC (d - 1) mX0_goOver [.inr (.inr 6), .inl (x4 + 1), .inl x4] h5 (fun h7 => cV wdC (d - 1) mX0_goOver [.inr (.inr 6), .inl (x4 + 3), .inl (x4 + 2)] h7 (fun h8 => gV wdC d mX0_workPin 18 [some (.inr (.inr 6)), some (.inl x1), some (.inl x2), some (.inl x3), some (.inl x4), some (.inl (x5 + 1))] h8 Q)))))) :
    gV wdC d mX0_workPin 18 [some (.inr (.inr 6)), some (.inl x1), some (.inl x2), some (.inl x3), some (.inl x4), some (.inl x5)] h Q := by
  unfold gV
  refine x_iload (pc := 18) (show decode mX0_workPin.2.1 18 = .ok (.iload 5, 2) by decide +kernel) rfl ?_
  refine x_iload_n (pc := 20) (show decode mX0_workPin.2.1 20 = .ok (.iload_n 3, 1) by decide +kernel) rfl rfl ?_
  refine x_callSN (pc := 21) (As := [.inl x3]) (rest := [.inl x5]) (lk0_45 rfl) sm_X7_actCount (Nat.le_of_ble_eq_true rfl) (Nat.le_of_ble_eq_true rfl) (show decode mX0_workPin.2.1 21 = .ok (.invokestatic 45, 3) by decide +kernel) hd hR (fun r9 h1 hq => ?_)
  obtain ⟨r2, rfl, hR⟩ := hq
  show xG _ _ _ 24 _ [.inl r2, .inl x5] _ _
  obtain ⟨hg, hR⟩ := hR
  refine x_icmp_ge (pc := 24) (tgt := 79) (show decode mX0_workPin.2.1 24 = .ok (.if_icmp .ge 55, 3) by decide +kernel) (by decide) ⟨hg.1, hg.2⟩ (fun hc => ?_) (fun hc => ?_)
  · replace hR := hR.1 hc
    refine x_aload_n (pc := 79) (show decode mX0_workPin.2.1 79 = .ok (.aload_n 0, 1) by decide +kernel) rfl rfl ?_
    refine x_getR (pc := 80) f0_26 rfl rfl (show decode mX0_workPin.2.1 80 = .ok (.getfield 26, 3) by decide +kernel) ?_
    refine x_aload_n (pc := 83) (show decode mX0_workPin.2.1 83 = .ok (.aload_n 0, 1) by decide +kernel) rfl rfl ?_
    refine x_getI (pc := 84) (ki := 3) f0_22 rfl rfl (by decide) rfl (show decode mX0_workPin.2.1 84 = .ok (.getfield 22, 3) by decide +kernel) ?_
    refine x_iload_n (pc := 87) (show decode mX0_workPin.2.1 87 = .ok (.iload_n 1, 1) by decide +kernel) rfl rfl ?_
    obtain ⟨hg, hR⟩ := hR
    refine x_iast (pc := 88) rfl (by decide) hg (show decode mX0_workPin.2.1 88 = .ok (.iastore, 1) by decide +kernel) ?_
    refine x_aload_n (pc := 89) (show decode mX0_workPin.2.1 89 = .ok (.aload_n 0, 1) by decide +kernel) rfl rfl ?_
    refine x_getR (pc := 90) f0_29 rfl rfl (show decode mX0_workPin.2.1 90 = .ok (.getfield 29, 3) by decide +kernel) ?_
    refine x_aload_n (pc := 93) (show decode mX0_workPin.2.1 93 = .ok (.aload_n 0, 1) by decide +kernel) rfl rfl ?_
    refine x_getI (pc := 94) (ki := 3) f0_22 rfl rfl (by decide) rfl (show decode mX0_workPin.2.1 94 = .ok (.getfield 22, 3) by decide +kernel) ?_
    refine x_aload_n (pc := 97) (show decode mX0_workPin.2.1 97 = .ok (.aload_n 0, 1) by decide +kernel) rfl rfl ?_
    refine x_getI (pc := 98) (ki := 6) f0_32 rfl rfl (by decide) rfl (show decode mX0_workPin.2.1 98 = .ok (.getfield 32, 3) by decide +kernel) ?_
    obtain ⟨hg, hR⟩ := hR
    refine x_iast (pc := 101) rfl (by decide) hg (show decode mX0_workPin.2.1 101 = .ok (.iastore, 1) by decide +kernel) ?_
    refine x_aload_n (pc := 102) (show decode mX0_workPin.2.1 102 = .ok (.aload_n 0, 1) by decide +kernel) rfl rfl ?_
    refine x_dup (pc := 103) (show decode mX0_workPin.2.1 103 = .ok (.dup, 1) by decide +kernel) rfl ?_
    refine x_getI (pc := 104) (ki := 3) f0_22 rfl rfl (by decide) rfl (show decode mX0_workPin.2.1 104 = .ok (.getfield 22, 3) by decide +kernel) ?_
    refine x_iconst (pc := 107) (n := 1) (show decode mX0_workPin.2.1 107 = .ok (.iconst 1, 1) by decide +kernel) ?_
    refine x_iadd (pc := 108) (show decode mX0_workPin.2.1 108 = .ok (.iadd, 1) by decide +kernel) ?_
    refine x_putI (pc := 109) (ki := 3) f0_22 fp0_3 rfl rfl rfl (show decode mX0_workPin.2.1 109 = .ok (.putfield 22, 3) by decide +kernel) ?_
    refine x_aload_n (pc := 112) (show decode mX0_workPin.2.1 112 = .ok (.aload_n 0, 1) by decide +kernel) rfl rfl ?_
    refine x_dup (pc := 113) (show decode mX0_workPin.2.1 113 = .ok (.dup, 1) by decide +kernel) rfl ?_
    refine x_getL (pc := 114) (ki := 2) f0_18 rfl rfl rfl (show decode mX0_workPin.2.1 114 = .ok (.getfield 18, 3) by decide +kernel) ?_
    refine x_iload_n (pc := 117) (show decode mX0_workPin.2.1 117 = .ok (.iload_n 1, 1) by decide +kernel) rfl rfl ?_
    refine x_callSN (pc := 118) (As := [.inl x1]) (rest := [.inr (.inl (h1 6 2)), .inr (.inr 6)]) (lk0_57 rfl) sm_X7_pinBit (Nat.le_of_ble_eq_true rfl) (Nat.le_of_ble_eq_true rfl) (show decode mX0_workPin.2.1 118 = .ok (.invokestatic 57, 3) by decide +kernel) hd hR (fun r9 h3 hq => ?_)
    obtain ⟨r4, rfl, hR⟩ := hq
    show xG _ _ _ 121 _ [.inr (.inl r4), .inr (.inl (h1 6 2)), .inr (.inr 6)] _ _
    refine x_lor (pc := 121) (show decode mX0_workPin.2.1 121 = .ok (.lor, 1) by decide +kernel) ?_
    refine x_putL (pc := 122) (ki := 2) f0_18 fp0_2 rfl rfl rfl (show decode mX0_workPin.2.1 122 = .ok (.putfield 18, 3) by decide +kernel) ?_
    refine x_aload_n (pc := 125) (show decode mX0_workPin.2.1 125 = .ok (.aload_n 0, 1) by decide +kernel) rfl rfl ?_
    refine x_iload_n (pc := 126) (show decode mX0_workPin.2.1 126 = .ok (.iload_n 2, 1) by decide +kernel) rfl rfl ?_
    refine x_putI (pc := 127) (ki := 6) f0_32 fp0_6 rfl rfl rfl (show decode mX0_workPin.2.1 127 = .ok (.putfield 32, 3) by decide +kernel) ?_
    exact x_vret (pc := 130) rfl (show decode mX0_workPin.2.1 130 = .ok (.return_, 1) by decide +kernel) ⟨rfl, hR⟩
  · replace hR := hR.2 hc
    refine x_iload_n (pc := 27) (show decode mX0_workPin.2.1 27 = .ok (.iload_n 3, 1) by decide +kernel) rfl rfl ?_
    refine x_iload (pc := 28) (show decode mX0_workPin.2.1 28 = .ok (.iload 5, 2) by decide +kernel) rfl ?_
    refine x_callSN (pc := 30) (As := [.inl x3, .inl x5]) (rest := []) (lk0_49 rfl) sm_X7_isCrossAct (Nat.le_of_ble_eq_true rfl) (Nat.le_of_ble_eq_true rfl) (show decode mX0_workPin.2.1 30 = .ok (.invokestatic 49, 3) by decide +kernel) hd hR (fun r9 h5 hq => ?_)
    obtain ⟨r8, rfl, hq⟩ := hq
    rcases hq with ⟨rfl, hR⟩ | ⟨rfl, hR⟩
    · show xG _ _ _ 33 _ [.inl 1] _ _
      refine x_if_eq (pc := 33) (tgt := 51) (show decode mX0_workPin.2.1 33 = .ok (.ifCond .eq 18, 3) by decide +kernel) (by decide) (by unfold inI; decide) (fun hc => absurd hc (by decide)) (fun _ => ?_)
      refine x_aload_n (pc := 36) (show decode mX0_workPin.2.1 36 = .ok (.aload_n 0, 1) by decide +kernel) rfl rfl ?_
      refine x_iload (pc := 37) (show decode mX0_workPin.2.1 37 = .ok (.iload 4, 2) by decide +kernel) rfl ?_
      refine x_iconst (pc := 39) (n := 1) (show decode mX0_workPin.2.1 39 = .ok (.iconst 1, 1) by decide +kernel) ?_
      refine x_iadd (pc := 40) (show decode mX0_workPin.2.1 40 = .ok (.iadd, 1) by decide +kernel) ?_
      refine x_iload (pc := 41) (show decode mX0_workPin.2.1 41 = .ok (.iload 4, 2) by decide +kernel) rfl ?_
      refine x_iconst (pc := 43) (n := 2) (show decode mX0_workPin.2.1 43 = .ok (.iconst 2, 1) by decide +kernel) ?_
      refine x_iadd (pc := 44) (show decode mX0_workPin.2.1 44 = .ok (.iadd, 1) by decide +kernel) ?_
      refine x_callV (pc := 45) (As := [.inl (x4 + 1), .inl (x4 + 2)]) (rest := []) (lk0_53 rfl) im_X0_goOver sl_X0_goOver rfl rfl rfl (Nat.le_of_ble_eq_true rfl) (Nat.le_of_ble_eq_true rfl) (show decode mX0_workPin.2.1 45 = .ok (.invokevirtual 53, 3) by decide +kernel) hd hR (fun r9 h6 hq => ?_)
      obtain ⟨rfl, hR⟩ := hq
      show xG _ _ _ 48 _ [] _ _
      refine x_goto (pc := 48) (tgt := 73) (show decode mX0_workPin.2.1 48 = .ok (.goto 25, 3) by decide +kernel) (by decide) ?_
      refine x_iinc (pc := 73) (ls' := [some (.inr (.inr 6)), some (.inl x1), some (.inl x2), some (.inl x3), some (.inl x4), some (.inl (x5 + 1))]) (show decode mX0_workPin.2.1 73 = .ok (.iinc 5 1, 3) by decide +kernel) (by decide) rfl rfl ?_
      refine x_goto (pc := 76) (tgt := 18) (show decode mX0_workPin.2.1 76 = .ok (.goto (-58), 3) by decide +kernel) (by decide) ?_
      exact hR
    · show xG _ _ _ 33 _ [.inl 0] _ _
      refine x_if_eq (pc := 33) (tgt := 51) (show decode mX0_workPin.2.1 33 = .ok (.ifCond .eq 18, 3) by decide +kernel) (by decide) (by unfold inI; decide) (fun _ => ?_) (fun hc => absurd hc (by decide))
      refine x_aload_n (pc := 51) (show decode mX0_workPin.2.1 51 = .ok (.aload_n 0, 1) by decide +kernel) rfl rfl ?_
      refine x_iload (pc := 52) (show decode mX0_workPin.2.1 52 = .ok (.iload 4, 2) by decide +kernel) rfl ?_
      refine x_iconst (pc := 54) (n := 1) (show decode mX0_workPin.2.1 54 = .ok (.iconst 1, 1) by decide +kernel) ?_
      refine x_iadd (pc := 55) (show decode mX0_workPin.2.1 55 = .ok (.iadd, 1) by decide +kernel) ?_
      refine x_iload (pc := 56) (show decode mX0_workPin.2.1 56 = .ok (.iload 4, 2) by decide +kernel) rfl ?_
      refine x_callV (pc := 58) (As := [.inl (x4 + 1), .inl x4]) (rest := []) (lk0_53 rfl) im_X0_goOver sl_X0_goOver rfl rfl rfl (Nat.le_of_ble_eq_true rfl) (Nat.le_of_ble_eq_true rfl) (show decode mX0_workPin.2.1 58 = .ok (.invokevirtual 53, 3) by decide +kernel) hd hR (fun r9 h7 hq => ?_)
      obtain ⟨rfl, hR⟩ := hq
      show xG _ _ _ 61 _ [] _ _
      refine x_aload_n (pc := 61) (show decode mX0_workPin.2.1 61 = .ok (.aload_n 0, 1) by decide +kernel) rfl rfl ?_
      refine x_iload (pc := 62) (show decode mX0_workPin.2.1 62 = .ok (.iload 4, 2) by decide +kernel) rfl ?_
      refine x_iconst (pc := 64) (n := 3) (show decode mX0_workPin.2.1 64 = .ok (.iconst 3, 1) by decide +kernel) ?_
      refine x_iadd (pc := 65) (show decode mX0_workPin.2.1 65 = .ok (.iadd, 1) by decide +kernel) ?_
      refine x_iload (pc := 66) (show decode mX0_workPin.2.1 66 = .ok (.iload 4, 2) by decide +kernel) rfl ?_
      refine x_iconst (pc := 68) (n := 2) (show decode mX0_workPin.2.1 68 = .ok (.iconst 2, 1) by decide +kernel) ?_
      refine x_iadd (pc := 69) (show decode mX0_workPin.2.1 69 = .ok (.iadd, 1) by decide +kernel) ?_
      refine x_callV (pc := 70) (As := [.inl (x4 + 3), .inl (x4 + 2)]) (rest := []) (lk0_53 rfl) im_X0_goOver sl_X0_goOver rfl rfl rfl (Nat.le_of_ble_eq_true rfl) (Nat.le_of_ble_eq_true rfl) (show decode mX0_workPin.2.1 70 = .ok (.invokevirtual 53, 3) by decide +kernel) hd hR (fun r9 h8 hq => ?_)
      obtain ⟨rfl, hR⟩ := hq
      show xG _ _ _ 73 _ [] _ _
      refine x_iinc (pc := 73) (ls' := [some (.inr (.inr 6)), some (.inl x1), some (.inl x2), some (.inl x3), some (.inl x4), some (.inl (x5 + 1))]) (show decode mX0_workPin.2.1 73 = .ok (.iinc 5 1, 3) by decide +kernel) (by decide) rfl rfl ?_
      refine x_goto (pc := 76) (tgt := 18) (show decode mX0_workPin.2.1 76 = .ok (.goto (-58), 3) by decide +kernel) (by decide) ?_
      exact hR
set_option maxRecDepth 4000 in
theorem sg_X0_unwork_0 {d : Nat} {x1 x2 x3 : Int} {h : xH} {Q : xH → Prop} (hd : 1 ≤ d)
    (hR : (inI (h 6 3)) ∧ (0 < (h 6 3) → cI wdC (d - 1) mX7_actCount [.inl x3] h (fun r2 h1 => gV wdC d mX0_unwork 21 [some (.inr (.inr 6)), some (.inl x1), none, some (.inl x3), some (.inl (2 * x2)), some (.inl (r2 - 1))] h1 Q)) ∧ ((h 6 3) ≤ 0 → Q h)) :
    gV wdC d mX0_unwork 0 [some (.inr (.inr 6)), some (.inl x1), some (.inl x2), some (.inl x3), none, none] h Q := by
  unfold gV
  refine x_aload_n (pc := 0) (show decode mX0_unwork.2.1 0 = .ok (.aload_n 0, 1) by decide +kernel) rfl rfl ?_
  refine x_getI (pc := 1) (ki := 3) f0_22 rfl rfl (by decide) rfl (show decode mX0_unwork.2.1 1 = .ok (.getfield 22, 3) by decide +kernel) ?_
  obtain ⟨hg, hR⟩ := hR
  refine x_if_gt (pc := 4) (tgt := 8) (show decode mX0_unwork.2.1 4 = .ok (.ifCond .gt 4, 3) by decide +kernel) (by decide) hg (fun hc => ?_) (fun hc => ?_)
  · replace hR := hR.1 hc
    refine x_iconst (pc := 8) (n := 2) (show decode mX0_unwork.2.1 8 = .ok (.iconst 2, 1) by decide +kernel) ?_
    refine x_iload_n (pc := 9) (show decode mX0_unwork.2.1 9 = .ok (.iload_n 2, 1) by decide +kernel) rfl rfl ?_
    refine x_imul (pc := 10) (show decode mX0_unwork.2.1 10 = .ok (.imul, 1) by decide +kernel) ?_
    refine x_istore (pc := 11) (ls' := [some (.inr (.inr 6)), some (.inl x1), some (.inl x2), some (.inl x3), some (.inl (2 * x2)), none]) (show decode mX0_unwork.2.1 11 = .ok (.istore 4, 2) by decide +kernel) (by decide) rfl ?_
    refine x_iload_n (pc := 13) (show decode mX0_unwork.2.1 13 = .ok (.iload_n 3, 1) by decide +kernel) rfl rfl ?_
    refine x_callSN (pc := 14) (As := [.inl x3]) (rest := []) (lk0_45 rfl) sm_X7_actCount (Nat.le_of_ble_eq_true rfl) (Nat.le_of_ble_eq_true rfl) (show decode mX0_unwork.2.1 14 = .ok (.invokestatic 45, 3) by decide +kernel) hd hR (fun r9 h1 hq => ?_)
    obtain ⟨r2, rfl, hR⟩ := hq
    show xG _ _ _ 17 _ [.inl r2] _ _
    refine x_iconst (pc := 17) (n := 1) (show decode mX0_unwork.2.1 17 = .ok (.iconst 1, 1) by decide +kernel) ?_
    refine x_isub (pc := 18) (show decode mX0_unwork.2.1 18 = .ok (.isub, 1) by decide +kernel) ?_
    refine x_istore (pc := 19) (ls' := [some (.inr (.inr 6)), some (.inl x1), some (.inl x2), some (.inl x3), some (.inl (2 * x2)), some (.inl (r2 - 1))]) (show decode mX0_unwork.2.1 19 = .ok (.istore 5, 2) by decide +kernel) (by decide) rfl ?_
    exact x_weak (xle_get (by repeat' constructor)) hR
  · replace hR := hR.2 hc
    exact x_vret (pc := 7) rfl (show decode mX0_unwork.2.1 7 = .ok (.return_, 1) by decide +kernel) ⟨rfl, hR⟩
set_option maxRecDepth 4000 in
theorem sg_X0_unwork_21 {d : Nat} {x1 x3 x4 x5 : Int} {h : xH} {Q : xH → Prop} (hd : 1 ≤ d)
    (hR : (inI x5) ∧ (x5 < 0 → cL wdC (d - 1) mX7_pinBit [.inl x1] (xu h 6 3 ((h 6 3) - 1)) (fun r2 h1 => (0 ≤ (h1 6 3) ∧ (h1 6 3) < 30) ∧ Q (xu (xu h1 6 2 (xandL (h 6 2) (xxorL r2 (-1)))) 6 6 (h1 10 (h1 6 3))))) ∧ (0 ≤ x5 → cB wdC (d - 1) mX7_isCrossAct [.inl x3, .inl x5] h (fun h3 => cV wdC (d - 1) mX0_goBack [.inr (.inr 6), .inl (x4 + 1), .inl (x4 + 2)] h3 (fun h4 => gV wdC d mX0_unwork 21 [some (.inr (.inr 6)), some (.inl x1), none, some (.inl x3), some (.inl x4), some (.inl (x5 + (-1)))] h4 Q)) (fun h3 => cV wdC (d - 1) mX0_goBack [.inr (.inr 6), .inl (x4 + 1), .inl x4] h3 (fun h5 => cV wdC (d - 1) mX0_goBack [.inr (.inr 6), .inl (x4 + 3), .inl (x4 + 2)] h5 (fun h6 => gV wdC d mX0_unwork 21 [some (.inr (.inr 6)), some (.inl x1), none, some (.inl x3), some (.inl x4), some (.inl (x5 + (-1)))] h6 Q))))) :
    gV wdC d mX0_unwork 21 [some (.inr (.inr 6)), some (.inl x1), none, some (.inl x3), some (.inl x4), some (.inl x5)] h Q := by
  unfold gV
  refine x_iload (pc := 21) (show decode mX0_unwork.2.1 21 = .ok (.iload 5, 2) by decide +kernel) rfl ?_
  obtain ⟨hg, hR⟩ := hR
  refine x_if_lt (pc := 23) (tgt := 78) (show decode mX0_unwork.2.1 23 = .ok (.ifCond .lt 55, 3) by decide +kernel) (by decide) hg (fun hc => ?_) (fun hc => ?_)
  · replace hR := hR.1 hc
    refine x_aload_n (pc := 78) (show decode mX0_unwork.2.1 78 = .ok (.aload_n 0, 1) by decide +kernel) rfl rfl ?_
    refine x_dup (pc := 79) (show decode mX0_unwork.2.1 79 = .ok (.dup, 1) by decide +kernel) rfl ?_
    refine x_getI (pc := 80) (ki := 3) f0_22 rfl rfl (by decide) rfl (show decode mX0_unwork.2.1 80 = .ok (.getfield 22, 3) by decide +kernel) ?_
    refine x_iconst (pc := 83) (n := 1) (show decode mX0_unwork.2.1 83 = .ok (.iconst 1, 1) by decide +kernel) ?_
    refine x_isub (pc := 84) (show decode mX0_unwork.2.1 84 = .ok (.isub, 1) by decide +kernel) ?_
    refine x_putI (pc := 85) (ki := 3) f0_22 fp0_3 rfl rfl rfl (show decode mX0_unwork.2.1 85 = .ok (.putfield 22, 3) by decide +kernel) ?_
    refine x_aload_n (pc := 88) (show decode mX0_unwork.2.1 88 = .ok (.aload_n 0, 1) by decide +kernel) rfl rfl ?_
    refine x_dup (pc := 89) (show decode mX0_unwork.2.1 89 = .ok (.dup, 1) by decide +kernel) rfl ?_
    refine x_getL (pc := 90) (ki := 2) f0_18 rfl rfl rfl (show decode mX0_unwork.2.1 90 = .ok (.getfield 18, 3) by decide +kernel) ?_
    refine x_iload_n (pc := 93) (show decode mX0_unwork.2.1 93 = .ok (.iload_n 1, 1) by decide +kernel) rfl rfl ?_
    refine x_callSN (pc := 94) (As := [.inl x1]) (rest := [.inr (.inl (h 6 2)), .inr (.inr 6)]) (lk0_57 rfl) sm_X7_pinBit (Nat.le_of_ble_eq_true rfl) (Nat.le_of_ble_eq_true rfl) (show decode mX0_unwork.2.1 94 = .ok (.invokestatic 57, 3) by decide +kernel) hd hR (fun r9 h1 hq => ?_)
    obtain ⟨r2, rfl, hR⟩ := hq
    show xG _ _ _ 97 _ [.inr (.inl r2), .inr (.inl (h 6 2)), .inr (.inr 6)] _ _
    refine x_ldc2 (pc := 97) (n := (-1)) (tblG_m3 72 rfl rfl) rfl (show decode mX0_unwork.2.1 97 = .ok (.ldc2_w 64, 3) by decide +kernel) ?_
    refine x_lxor (pc := 100) (show decode mX0_unwork.2.1 100 = .ok (.lxor, 1) by decide +kernel) ?_
    refine x_land (pc := 101) (show decode mX0_unwork.2.1 101 = .ok (.land, 1) by decide +kernel) ?_
    refine x_putL (pc := 102) (ki := 2) f0_18 fp0_2 rfl rfl rfl (show decode mX0_unwork.2.1 102 = .ok (.putfield 18, 3) by decide +kernel) ?_
    refine x_aload_n (pc := 105) (show decode mX0_unwork.2.1 105 = .ok (.aload_n 0, 1) by decide +kernel) rfl rfl ?_
    refine x_aload_n (pc := 106) (show decode mX0_unwork.2.1 106 = .ok (.aload_n 0, 1) by decide +kernel) rfl rfl ?_
    refine x_getR (pc := 107) f0_29 rfl rfl (show decode mX0_unwork.2.1 107 = .ok (.getfield 29, 3) by decide +kernel) ?_
    refine x_aload_n (pc := 110) (show decode mX0_unwork.2.1 110 = .ok (.aload_n 0, 1) by decide +kernel) rfl rfl ?_
    refine x_getI (pc := 111) (ki := 3) f0_22 rfl rfl (by decide) rfl (show decode mX0_unwork.2.1 111 = .ok (.getfield 22, 3) by decide +kernel) ?_
    obtain ⟨hg, hR⟩ := hR
    refine x_iald (pc := 114) rfl (by decide) hg (show decode mX0_unwork.2.1 114 = .ok (.iaload, 1) by decide +kernel) ?_
    refine x_putI (pc := 115) (ki := 6) f0_32 fp0_6 rfl rfl rfl (show decode mX0_unwork.2.1 115 = .ok (.putfield 32, 3) by decide +kernel) ?_
    exact x_vret (pc := 118) rfl (show decode mX0_unwork.2.1 118 = .ok (.return_, 1) by decide +kernel) ⟨rfl, hR⟩
  · replace hR := hR.2 hc
    refine x_iload_n (pc := 26) (show decode mX0_unwork.2.1 26 = .ok (.iload_n 3, 1) by decide +kernel) rfl rfl ?_
    refine x_iload (pc := 27) (show decode mX0_unwork.2.1 27 = .ok (.iload 5, 2) by decide +kernel) rfl ?_
    refine x_callSN (pc := 29) (As := [.inl x3, .inl x5]) (rest := []) (lk0_49 rfl) sm_X7_isCrossAct (Nat.le_of_ble_eq_true rfl) (Nat.le_of_ble_eq_true rfl) (show decode mX0_unwork.2.1 29 = .ok (.invokestatic 49, 3) by decide +kernel) hd hR (fun r9 h3 hq => ?_)
    obtain ⟨r8, rfl, hq⟩ := hq
    rcases hq with ⟨rfl, hR⟩ | ⟨rfl, hR⟩
    · show xG _ _ _ 32 _ [.inl 1] _ _
      refine x_if_eq (pc := 32) (tgt := 50) (show decode mX0_unwork.2.1 32 = .ok (.ifCond .eq 18, 3) by decide +kernel) (by decide) (by unfold inI; decide) (fun hc => absurd hc (by decide)) (fun _ => ?_)
      refine x_aload_n (pc := 35) (show decode mX0_unwork.2.1 35 = .ok (.aload_n 0, 1) by decide +kernel) rfl rfl ?_
      refine x_iload (pc := 36) (show decode mX0_unwork.2.1 36 = .ok (.iload 4, 2) by decide +kernel) rfl ?_
      refine x_iconst (pc := 38) (n := 1) (show decode mX0_unwork.2.1 38 = .ok (.iconst 1, 1) by decide +kernel) ?_
      refine x_iadd (pc := 39) (show decode mX0_unwork.2.1 39 = .ok (.iadd, 1) by decide +kernel) ?_
      refine x_iload (pc := 40) (show decode mX0_unwork.2.1 40 = .ok (.iload 4, 2) by decide +kernel) rfl ?_
      refine x_iconst (pc := 42) (n := 2) (show decode mX0_unwork.2.1 42 = .ok (.iconst 2, 1) by decide +kernel) ?_
      refine x_iadd (pc := 43) (show decode mX0_unwork.2.1 43 = .ok (.iadd, 1) by decide +kernel) ?_
      refine x_callV (pc := 44) (As := [.inl (x4 + 1), .inl (x4 + 2)]) (rest := []) (lk0_61 rfl) im_X0_goBack sl_X0_goBack rfl rfl rfl (Nat.le_of_ble_eq_true rfl) (Nat.le_of_ble_eq_true rfl) (show decode mX0_unwork.2.1 44 = .ok (.invokevirtual 61, 3) by decide +kernel) hd hR (fun r9 h4 hq => ?_)
      obtain ⟨rfl, hR⟩ := hq
      show xG _ _ _ 47 _ [] _ _
      refine x_goto (pc := 47) (tgt := 72) (show decode mX0_unwork.2.1 47 = .ok (.goto 25, 3) by decide +kernel) (by decide) ?_
      refine x_iinc (pc := 72) (ls' := [some (.inr (.inr 6)), some (.inl x1), none, some (.inl x3), some (.inl x4), some (.inl (x5 + (-1)))]) (show decode mX0_unwork.2.1 72 = .ok (.iinc 5 (-1), 3) by decide +kernel) (by decide) rfl rfl ?_
      refine x_goto (pc := 75) (tgt := 21) (show decode mX0_unwork.2.1 75 = .ok (.goto (-54), 3) by decide +kernel) (by decide) ?_
      exact hR
    · show xG _ _ _ 32 _ [.inl 0] _ _
      refine x_if_eq (pc := 32) (tgt := 50) (show decode mX0_unwork.2.1 32 = .ok (.ifCond .eq 18, 3) by decide +kernel) (by decide) (by unfold inI; decide) (fun _ => ?_) (fun hc => absurd hc (by decide))
      refine x_aload_n (pc := 50) (show decode mX0_unwork.2.1 50 = .ok (.aload_n 0, 1) by decide +kernel) rfl rfl ?_
      refine x_iload (pc := 51) (show decode mX0_unwork.2.1 51 = .ok (.iload 4, 2) by decide +kernel) rfl ?_
      refine x_iconst (pc := 53) (n := 1) (show decode mX0_unwork.2.1 53 = .ok (.iconst 1, 1) by decide +kernel) ?_
      refine x_iadd (pc := 54) (show decode mX0_unwork.2.1 54 = .ok (.iadd, 1) by decide +kernel) ?_
      refine x_iload (pc := 55) (show decode mX0_unwork.2.1 55 = .ok (.iload 4, 2) by decide +kernel) rfl ?_
      refine x_callV (pc := 57) (As := [.inl (x4 + 1), .inl x4]) (rest := []) (lk0_61 rfl) im_X0_goBack sl_X0_goBack rfl rfl rfl (Nat.le_of_ble_eq_true rfl) (Nat.le_of_ble_eq_true rfl) (show decode mX0_unwork.2.1 57 = .ok (.invokevirtual 61, 3) by decide +kernel) hd hR (fun r9 h5 hq => ?_)
      obtain ⟨rfl, hR⟩ := hq
      show xG _ _ _ 60 _ [] _ _
      refine x_aload_n (pc := 60) (show decode mX0_unwork.2.1 60 = .ok (.aload_n 0, 1) by decide +kernel) rfl rfl ?_
      refine x_iload (pc := 61) (show decode mX0_unwork.2.1 61 = .ok (.iload 4, 2) by decide +kernel) rfl ?_
      refine x_iconst (pc := 63) (n := 3) (show decode mX0_unwork.2.1 63 = .ok (.iconst 3, 1) by decide +kernel) ?_
      refine x_iadd (pc := 64) (show decode mX0_unwork.2.1 64 = .ok (.iadd, 1) by decide +kernel) ?_
      refine x_iload (pc := 65) (show decode mX0_unwork.2.1 65 = .ok (.iload 4, 2) by decide +kernel) rfl ?_
      refine x_iconst (pc := 67) (n := 2) (show decode mX0_unwork.2.1 67 = .ok (.iconst 2, 1) by decide +kernel) ?_
      refine x_iadd (pc := 68) (show decode mX0_unwork.2.1 68 = .ok (.iadd, 1) by decide +kernel) ?_
      refine x_callV (pc := 69) (As := [.inl (x4 + 3), .inl (x4 + 2)]) (rest := []) (lk0_61 rfl) im_X0_goBack sl_X0_goBack rfl rfl rfl (Nat.le_of_ble_eq_true rfl) (Nat.le_of_ble_eq_true rfl) (show decode mX0_unwork.2.1 69 = .ok (.invokevirtual 61, 3) by decide +kernel) hd hR (fun r9 h6 hq => ?_)
      obtain ⟨rfl, hR⟩ := hq
      show xG _ _ _ 72 _ [] _ _
      refine x_iinc (pc := 72) (ls' := [some (.inr (.inr 6)), some (.inl x1), none, some (.inl x3), some (.inl x4), some (.inl (x5 + (-1)))]) (show decode mX0_unwork.2.1 72 = .ok (.iinc 5 (-1), 3) by decide +kernel) (by decide) rfl rfl ?_
      refine x_goto (pc := 75) (tgt := 21) (show decode mX0_unwork.2.1 75 = .ok (.goto (-54), 3) by decide +kernel) (by decide) ?_
      exact hR
set_option maxRecDepth 4000 in
theorem sg_X0_goOver_0 {d : Nat} {x1 x2 : Int} {h : xH} {Q : xH → Prop} (hd : 1 ≤ d)
    (hR : (0 ≤ x1 ∧ x1 < 24) ∧ (0 ≤ (h 7 x1) ∧ (h 7 x1) < 24) ∧ (0 ≤ (h 7 x1) ∧ (h 7 x1) < 24) ∧ cV wdC (d - 1) mX0_changePlaces [.inr (.inr 6), .inl x1, .inl x2] (xu h 8 (h 7 x1) ((h 8 (h 7 x1)) + 1)) (fun h1 => Q h1)) :
    gV wdC d mX0_goOver 0 [some (.inr (.inr 6)), some (.inl x1), some (.inl x2)] h Q := by
  unfold gV
  refine x_aload_n (pc := 0) (show decode mX0_goOver.2.1 0 = .ok (.aload_n 0, 1) by decide +kernel) rfl rfl ?_
  refine x_getR (pc := 1) f0_15 rfl rfl (show decode mX0_goOver.2.1 1 = .ok (.getfield 15, 3) by decide +kernel) ?_
  refine x_aload_n (pc := 4) (show decode mX0_goOver.2.1 4 = .ok (.aload_n 0, 1) by decide +kernel) rfl rfl ?_
  refine x_getR (pc := 5) f0_9 rfl rfl (show decode mX0_goOver.2.1 5 = .ok (.getfield 9, 3) by decide +kernel) ?_
  refine x_iload_n (pc := 8) (show decode mX0_goOver.2.1 8 = .ok (.iload_n 1, 1) by decide +kernel) rfl rfl ?_
  obtain ⟨hg, hR⟩ := hR
  refine x_iald (pc := 9) rfl (by decide) hg (show decode mX0_goOver.2.1 9 = .ok (.iaload, 1) by decide +kernel) ?_
  refine x_dup2 (pc := 10) (show decode mX0_goOver.2.1 10 = .ok (.dup2, 1) by decide +kernel) rfl rfl ?_
  obtain ⟨hg, hR⟩ := hR
  refine x_iald (pc := 11) rfl (by decide) hg (show decode mX0_goOver.2.1 11 = .ok (.iaload, 1) by decide +kernel) ?_
  refine x_iconst (pc := 12) (n := 1) (show decode mX0_goOver.2.1 12 = .ok (.iconst 1, 1) by decide +kernel) ?_
  refine x_iadd (pc := 13) (show decode mX0_goOver.2.1 13 = .ok (.iadd, 1) by decide +kernel) ?_
  obtain ⟨hg, hR⟩ := hR
  refine x_iast (pc := 14) rfl (by decide) hg (show decode mX0_goOver.2.1 14 = .ok (.iastore, 1) by decide +kernel) ?_
  refine x_aload_n (pc := 15) (show decode mX0_goOver.2.1 15 = .ok (.aload_n 0, 1) by decide +kernel) rfl rfl ?_
  refine x_iload_n (pc := 16) (show decode mX0_goOver.2.1 16 = .ok (.iload_n 1, 1) by decide +kernel) rfl rfl ?_
  refine x_iload_n (pc := 17) (show decode mX0_goOver.2.1 17 = .ok (.iload_n 2, 1) by decide +kernel) rfl rfl ?_
  refine x_callV (pc := 18) (As := [.inl x1, .inl x2]) (rest := []) (lk0_66 rfl) im_X0_changePlaces sl_X0_changePlaces rfl rfl rfl (Nat.le_of_ble_eq_true rfl) (Nat.le_of_ble_eq_true rfl) (show decode mX0_goOver.2.1 18 = .ok (.invokevirtual 66, 3) by decide +kernel) hd hR (fun r9 h1 hq => ?_)
  obtain ⟨rfl, hR⟩ := hq
  show xG _ _ _ 21 _ [] _ _
  exact x_vret (pc := 21) rfl (show decode mX0_goOver.2.1 21 = .ok (.return_, 1) by decide +kernel) ⟨rfl, hR⟩
set_option maxRecDepth 4000 in
theorem sg_X0_goBack_0 {d : Nat} {x1 x2 : Int} {h : xH} {Q : xH → Prop} (hd : 1 ≤ d)
    (hR : cV wdC (d - 1) mX0_changePlaces [.inr (.inr 6), .inl x1, .inl x2] h (fun h1 => (0 ≤ x1 ∧ x1 < 24) ∧ (0 ≤ (h1 7 x1) ∧ (h1 7 x1) < 24) ∧ (0 ≤ (h1 7 x1) ∧ (h1 7 x1) < 24) ∧ Q (xu h1 8 (h1 7 x1) ((h1 8 (h1 7 x1)) - 1)))) :
    gV wdC d mX0_goBack 0 [some (.inr (.inr 6)), some (.inl x1), some (.inl x2)] h Q := by
  unfold gV
  refine x_aload_n (pc := 0) (show decode mX0_goBack.2.1 0 = .ok (.aload_n 0, 1) by decide +kernel) rfl rfl ?_
  refine x_iload_n (pc := 1) (show decode mX0_goBack.2.1 1 = .ok (.iload_n 1, 1) by decide +kernel) rfl rfl ?_
  refine x_iload_n (pc := 2) (show decode mX0_goBack.2.1 2 = .ok (.iload_n 2, 1) by decide +kernel) rfl rfl ?_
  refine x_callV (pc := 3) (As := [.inl x1, .inl x2]) (rest := []) (lk0_66 rfl) im_X0_changePlaces sl_X0_changePlaces rfl rfl rfl (Nat.le_of_ble_eq_true rfl) (Nat.le_of_ble_eq_true rfl) (show decode mX0_goBack.2.1 3 = .ok (.invokevirtual 66, 3) by decide +kernel) hd hR (fun r9 h1 hq => ?_)
  obtain ⟨rfl, hR⟩ := hq
  show xG _ _ _ 6 _ [] _ _
  refine x_aload_n (pc := 6) (show decode mX0_goBack.2.1 6 = .ok (.aload_n 0, 1) by decide +kernel) rfl rfl ?_
  refine x_getR (pc := 7) f0_15 rfl rfl (show decode mX0_goBack.2.1 7 = .ok (.getfield 15, 3) by decide +kernel) ?_
  refine x_aload_n (pc := 10) (show decode mX0_goBack.2.1 10 = .ok (.aload_n 0, 1) by decide +kernel) rfl rfl ?_
  refine x_getR (pc := 11) f0_9 rfl rfl (show decode mX0_goBack.2.1 11 = .ok (.getfield 9, 3) by decide +kernel) ?_
  refine x_iload_n (pc := 14) (show decode mX0_goBack.2.1 14 = .ok (.iload_n 1, 1) by decide +kernel) rfl rfl ?_
  obtain ⟨hg, hR⟩ := hR
  refine x_iald (pc := 15) rfl (by decide) hg (show decode mX0_goBack.2.1 15 = .ok (.iaload, 1) by decide +kernel) ?_
  refine x_dup2 (pc := 16) (show decode mX0_goBack.2.1 16 = .ok (.dup2, 1) by decide +kernel) rfl rfl ?_
  obtain ⟨hg, hR⟩ := hR
  refine x_iald (pc := 17) rfl (by decide) hg (show decode mX0_goBack.2.1 17 = .ok (.iaload, 1) by decide +kernel) ?_
  refine x_iconst (pc := 18) (n := 1) (show decode mX0_goBack.2.1 18 = .ok (.iconst 1, 1) by decide +kernel) ?_
  refine x_isub (pc := 19) (show decode mX0_goBack.2.1 19 = .ok (.isub, 1) by decide +kernel) ?_
  obtain ⟨hg, hR⟩ := hR
  refine x_iast (pc := 20) rfl (by decide) hg (show decode mX0_goBack.2.1 20 = .ok (.iastore, 1) by decide +kernel) ?_
  exact x_vret (pc := 21) rfl (show decode mX0_goBack.2.1 21 = .ok (.return_, 1) by decide +kernel) ⟨rfl, hR⟩
set_option maxRecDepth 4000 in
theorem sg_X0_changePlaces_0 {d : Nat} {x1 x2 : Int} {h : xH} {Q : xH → Prop}
    (hR : (0 ≤ x1 ∧ x1 < 24) ∧ (0 ≤ x2 ∧ x2 < 24) ∧ (0 ≤ x1 ∧ x1 < 24) ∧ (0 ≤ x2 ∧ x2 < 24) ∧ Q (xu (xu h 7 x1 (h 7 x2)) 7 x2 (h 7 x1))) :
    gV wdC d mX0_changePlaces 0 [some (.inr (.inr 6)), some (.inl x1), some (.inl x2), none] h Q := by
  unfold gV
  refine x_aload_n (pc := 0) (show decode mX0_changePlaces.2.1 0 = .ok (.aload_n 0, 1) by decide +kernel) rfl rfl ?_
  refine x_getR (pc := 1) f0_9 rfl rfl (show decode mX0_changePlaces.2.1 1 = .ok (.getfield 9, 3) by decide +kernel) ?_
  refine x_iload_n (pc := 4) (show decode mX0_changePlaces.2.1 4 = .ok (.iload_n 1, 1) by decide +kernel) rfl rfl ?_
  obtain ⟨hg, hR⟩ := hR
  refine x_iald (pc := 5) rfl (by decide) hg (show decode mX0_changePlaces.2.1 5 = .ok (.iaload, 1) by decide +kernel) ?_
  refine x_istore_n (pc := 6) (ls' := [some (.inr (.inr 6)), some (.inl x1), some (.inl x2), some (.inl (h 7 x1))]) (show decode mX0_changePlaces.2.1 6 = .ok (.istore_n 3, 1) by decide +kernel) rfl (by decide) rfl ?_
  refine x_aload_n (pc := 7) (show decode mX0_changePlaces.2.1 7 = .ok (.aload_n 0, 1) by decide +kernel) rfl rfl ?_
  refine x_getR (pc := 8) f0_9 rfl rfl (show decode mX0_changePlaces.2.1 8 = .ok (.getfield 9, 3) by decide +kernel) ?_
  refine x_iload_n (pc := 11) (show decode mX0_changePlaces.2.1 11 = .ok (.iload_n 1, 1) by decide +kernel) rfl rfl ?_
  refine x_aload_n (pc := 12) (show decode mX0_changePlaces.2.1 12 = .ok (.aload_n 0, 1) by decide +kernel) rfl rfl ?_
  refine x_getR (pc := 13) f0_9 rfl rfl (show decode mX0_changePlaces.2.1 13 = .ok (.getfield 9, 3) by decide +kernel) ?_
  refine x_iload_n (pc := 16) (show decode mX0_changePlaces.2.1 16 = .ok (.iload_n 2, 1) by decide +kernel) rfl rfl ?_
  obtain ⟨hg, hR⟩ := hR
  refine x_iald (pc := 17) rfl (by decide) hg (show decode mX0_changePlaces.2.1 17 = .ok (.iaload, 1) by decide +kernel) ?_
  obtain ⟨hg, hR⟩ := hR
  refine x_iast (pc := 18) rfl (by decide) hg (show decode mX0_changePlaces.2.1 18 = .ok (.iastore, 1) by decide +kernel) ?_
  refine x_aload_n (pc := 19) (show decode mX0_changePlaces.2.1 19 = .ok (.aload_n 0, 1) by decide +kernel) rfl rfl ?_
  refine x_getR (pc := 20) f0_9 rfl rfl (show decode mX0_changePlaces.2.1 20 = .ok (.getfield 9, 3) by decide +kernel) ?_
  refine x_iload_n (pc := 23) (show decode mX0_changePlaces.2.1 23 = .ok (.iload_n 2, 1) by decide +kernel) rfl rfl ?_
  refine x_iload_n (pc := 24) (show decode mX0_changePlaces.2.1 24 = .ok (.iload_n 3, 1) by decide +kernel) rfl rfl ?_
  obtain ⟨hg, hR⟩ := hR
  refine x_iast (pc := 25) rfl (by decide) hg (show decode mX0_changePlaces.2.1 25 = .ok (.iastore, 1) by decide +kernel) ?_
  exact x_vret (pc := 26) rfl (show decode mX0_changePlaces.2.1 26 = .ok (.return_, 1) by decide +kernel) ⟨rfl, hR⟩
set_option maxRecDepth 4000 in
theorem sg_X1_join_0 {d : Nat} {h : xH} {Q : xH → Prop} (hd : 1 ≤ d)
    (hR : cV wdC (d - 1) mX1_sortOut [.inr (.inr 39), .inr (.inr 1)] h (fun h1 => cV wdC (d - 1) mX1_weigh [.inr (.inr 39)] h1 (fun h2 => cV wdC (d - 1) mX1_choose [.inr (.inr 39)] h2 (fun h3 => Q h3)))) :
    gV wdC d mX1_join 0 [some (.inr (.inr 39)), some (.inr (.inr 1))] h Q := by
  unfold gV
  refine x_aload_n (pc := 0) (show decode mX1_join.2.1 0 = .ok (.aload_n 0, 1) by decide +kernel) rfl rfl ?_
  refine x_aload_n (pc := 1) (show decode mX1_join.2.1 1 = .ok (.aload_n 1, 1) by decide +kernel) rfl rfl ?_
  refine x_callV (pc := 2) (As := [.inr (.inr 1)]) (rest := []) (lk1_37 rfl) im_X1_sortOut sl_X1_sortOut rfl rfl rfl (Nat.le_of_ble_eq_true rfl) (Nat.le_of_ble_eq_true rfl) (show decode mX1_join.2.1 2 = .ok (.invokevirtual 37, 3) by decide +kernel) hd hR (fun r9 h1 hq => ?_)
  obtain ⟨rfl, hR⟩ := hq
  show xG _ _ _ 5 _ [] _ _
  refine x_aload_n (pc := 5) (show decode mX1_join.2.1 5 = .ok (.aload_n 0, 1) by decide +kernel) rfl rfl ?_
  refine x_callV (pc := 6) (As := []) (rest := []) (lk1_41 rfl) im_X1_weigh sl_X1_weigh rfl rfl rfl (Nat.le_of_ble_eq_true rfl) (Nat.le_of_ble_eq_true rfl) (show decode mX1_join.2.1 6 = .ok (.invokevirtual 41, 3) by decide +kernel) hd hR (fun r9 h2 hq => ?_)
  obtain ⟨rfl, hR⟩ := hq
  show xG _ _ _ 9 _ [] _ _
  refine x_aload_n (pc := 9) (show decode mX1_join.2.1 9 = .ok (.aload_n 0, 1) by decide +kernel) rfl rfl ?_
  refine x_callV (pc := 10) (As := []) (rest := []) (lk1_44 rfl) im_X1_choose sl_X1_choose rfl rfl rfl (Nat.le_of_ble_eq_true rfl) (Nat.le_of_ble_eq_true rfl) (show decode mX1_join.2.1 10 = .ok (.invokevirtual 44, 3) by decide +kernel) hd hR (fun r9 h3 hq => ?_)
  obtain ⟨rfl, hR⟩ := hq
  show xG _ _ _ 13 _ [] _ _
  exact x_vret (pc := 13) rfl (show decode mX1_join.2.1 13 = .ok (.return_, 1) by decide +kernel) ⟨rfl, hR⟩
set_option maxRecDepth 4000 in
theorem sg_X1_sortOut_0 {d : Nat} {h : xH} {Q : xH → Prop}
    (hR : gV wdC d mX1_sortOut 12 [some (.inr (.inr 39)), some (.inr (.inr 1)), some (.inl 0)] (xu (xu h 39 0 0) 39 1 0) Q) :
    gV wdC d mX1_sortOut 0 [some (.inr (.inr 39)), some (.inr (.inr 1)), none] h Q := by
  unfold gV
  refine x_aload_n (pc := 0) (show decode mX1_sortOut.2.1 0 = .ok (.aload_n 0, 1) by decide +kernel) rfl rfl ?_
  refine x_iconst (pc := 1) (n := 0) (show decode mX1_sortOut.2.1 1 = .ok (.iconst 0, 1) by decide +kernel) ?_
  refine x_putI (pc := 2) (ki := 0) f1_9 fp1_0 rfl rfl rfl (show decode mX1_sortOut.2.1 2 = .ok (.putfield 9, 3) by decide +kernel) ?_
  refine x_aload_n (pc := 5) (show decode mX1_sortOut.2.1 5 = .ok (.aload_n 0, 1) by decide +kernel) rfl rfl ?_
  refine x_iconst (pc := 6) (n := 0) (show decode mX1_sortOut.2.1 6 = .ok (.iconst 0, 1) by decide +kernel) ?_
  refine x_putI (pc := 7) (ki := 1) f1_15 fp1_1 rfl rfl rfl (show decode mX1_sortOut.2.1 7 = .ok (.putfield 15, 3) by decide +kernel) ?_
  refine x_iconst (pc := 10) (n := 0) (show decode mX1_sortOut.2.1 10 = .ok (.iconst 0, 1) by decide +kernel) ?_
  refine x_istore_n (pc := 11) (ls' := [some (.inr (.inr 39)), some (.inr (.inr 1)), some (.inl 0)]) (show decode mX1_sortOut.2.1 11 = .ok (.istore_n 2, 1) by decide +kernel) rfl (by decide) rfl ?_
  exact hR
set_option maxRecDepth 4000 in
theorem sg_X1_sortOut_12 {d : Nat} {x2 : Int} {h : xH} {Q : xH → Prop} (hd : 1 ≤ d)
    (hR : (inI x2 ∧ inI (h 1 6)) ∧ ((h 1 6) ≤ x2 → Q h) ∧ (x2 < (h 1 6) → cB wdC (d - 1) mX3_turnsFull [.inr (.inr 1), .inl x2] h (fun h1 => (0 ≤ x2 ∧ x2 < 10) ∧ (0 ≤ (h1 39 0) ∧ (h1 39 0) < 10) ∧ gV wdC d mX1_sortOut 12 [some (.inr (.inr 39)), some (.inr (.inr 1)), some (.inl (x2 + 1))] (xu (xu h1 40 (h1 39 0) (h1 5 x2)) 39 0 ((h1 39 0) + 1)) Q) (fun h1 => (0 ≤ x2 ∧ x2 < 10) ∧ (0 ≤ (h1 39 1) ∧ (h1 39 1) < 10) ∧ gV wdC d mX1_sortOut 12 [some (.inr (.inr 39)), some (.inr (.inr 1)), some (.inl (x2 + 1))] (xu (xu h1 41 (h1 39 1) (h1 5 x2)) 39 1 ((h1 39 1) + 1)) Q))) :
    gV wdC d mX1_sortOut 12 [some (.inr (.inr 39)), some (.inr (.inr 1)), some (.inl x2)] h Q := by
  unfold gV
  refine x_iload_n (pc := 12) (show decode mX1_sortOut.2.1 12 = .ok (.iload_n 2, 1) by decide +kernel) rfl rfl ?_
  refine x_aload_n (pc := 13) (show decode mX1_sortOut.2.1 13 = .ok (.aload_n 1, 1) by decide +kernel) rfl rfl ?_
  refine x_getI (pc := 14) (ki := 6) f1_47 rfl rfl (by decide) rfl (show decode mX1_sortOut.2.1 14 = .ok (.getfield 47, 3) by decide +kernel) ?_
  obtain ⟨hg, hR⟩ := hR
  refine x_icmp_ge (pc := 17) (tgt := 87) (show decode mX1_sortOut.2.1 17 = .ok (.if_icmp .ge 70, 3) by decide +kernel) (by decide) ⟨hg.1, hg.2⟩ (fun hc => ?_) (fun hc => ?_)
  · replace hR := hR.1 hc
    exact x_vret (pc := 87) rfl (show decode mX1_sortOut.2.1 87 = .ok (.return_, 1) by decide +kernel) ⟨rfl, hR⟩
  · replace hR := hR.2 hc
    refine x_aload_n (pc := 20) (show decode mX1_sortOut.2.1 20 = .ok (.aload_n 1, 1) by decide +kernel) rfl rfl ?_
    refine x_iload_n (pc := 21) (show decode mX1_sortOut.2.1 21 = .ok (.iload_n 2, 1) by decide +kernel) rfl rfl ?_
    refine x_callV (pc := 22) (As := [.inl x2]) (rest := []) (lk1_52 rfl) im_X3_turnsFull sl_X3_turnsFull rfl rfl rfl (Nat.le_of_ble_eq_true rfl) (Nat.le_of_ble_eq_true rfl) (show decode mX1_sortOut.2.1 22 = .ok (.invokevirtual 52, 3) by decide +kernel) hd hR (fun r9 h1 hq => ?_)
    obtain ⟨r8, rfl, hq⟩ := hq
    rcases hq with ⟨rfl, hR⟩ | ⟨rfl, hR⟩
    · show xG _ _ _ 25 _ [.inl 1] _ _
      refine x_if_eq (pc := 25) (tgt := 56) (show decode mX1_sortOut.2.1 25 = .ok (.ifCond .eq 31, 3) by decide +kernel) (by decide) (by unfold inI; decide) (fun hc => absurd hc (by decide)) (fun _ => ?_)
      refine x_aload_n (pc := 28) (show decode mX1_sortOut.2.1 28 = .ok (.aload_n 0, 1) by decide +kernel) rfl rfl ?_
      refine x_getR (pc := 29) f1_24 rfl rfl (show decode mX1_sortOut.2.1 29 = .ok (.getfield 24, 3) by decide +kernel) ?_
      refine x_aload_n (pc := 32) (show decode mX1_sortOut.2.1 32 = .ok (.aload_n 0, 1) by decide +kernel) rfl rfl ?_
      refine x_getI (pc := 33) (ki := 0) f1_9 rfl rfl (by decide) rfl (show decode mX1_sortOut.2.1 33 = .ok (.getfield 9, 3) by decide +kernel) ?_
      refine x_aload_n (pc := 36) (show decode mX1_sortOut.2.1 36 = .ok (.aload_n 1, 1) by decide +kernel) rfl rfl ?_
      refine x_getR (pc := 37) f1_56 rfl rfl (show decode mX1_sortOut.2.1 37 = .ok (.getfield 56, 3) by decide +kernel) ?_
      refine x_iload_n (pc := 40) (show decode mX1_sortOut.2.1 40 = .ok (.iload_n 2, 1) by decide +kernel) rfl rfl ?_
      obtain ⟨hg, hR⟩ := hR
      refine x_iald (pc := 41) rfl (by decide) hg (show decode mX1_sortOut.2.1 41 = .ok (.iaload, 1) by decide +kernel) ?_
      obtain ⟨hg, hR⟩ := hR
      refine x_iast (pc := 42) rfl (by decide) hg (show decode mX1_sortOut.2.1 42 = .ok (.iastore, 1) by decide +kernel) ?_
      refine x_aload_n (pc := 43) (show decode mX1_sortOut.2.1 43 = .ok (.aload_n 0, 1) by decide +kernel) rfl rfl ?_
      refine x_dup (pc := 44) (show decode mX1_sortOut.2.1 44 = .ok (.dup, 1) by decide +kernel) rfl ?_
      refine x_getI (pc := 45) (ki := 0) f1_9 rfl rfl (by decide) rfl (show decode mX1_sortOut.2.1 45 = .ok (.getfield 9, 3) by decide +kernel) ?_
      refine x_iconst (pc := 48) (n := 1) (show decode mX1_sortOut.2.1 48 = .ok (.iconst 1, 1) by decide +kernel) ?_
      refine x_iadd (pc := 49) (show decode mX1_sortOut.2.1 49 = .ok (.iadd, 1) by decide +kernel) ?_
      refine x_putI (pc := 50) (ki := 0) f1_9 fp1_0 rfl rfl rfl (show decode mX1_sortOut.2.1 50 = .ok (.putfield 9, 3) by decide +kernel) ?_
      refine x_goto (pc := 53) (tgt := 81) (show decode mX1_sortOut.2.1 53 = .ok (.goto 28, 3) by decide +kernel) (by decide) ?_
      refine x_iinc (pc := 81) (ls' := [some (.inr (.inr 39)), some (.inr (.inr 1)), some (.inl (x2 + 1))]) (show decode mX1_sortOut.2.1 81 = .ok (.iinc 2 1, 3) by decide +kernel) (by decide) rfl rfl ?_
      refine x_goto (pc := 84) (tgt := 12) (show decode mX1_sortOut.2.1 84 = .ok (.goto (-72), 3) by decide +kernel) (by decide) ?_
      exact hR
    · show xG _ _ _ 25 _ [.inl 0] _ _
      refine x_if_eq (pc := 25) (tgt := 56) (show decode mX1_sortOut.2.1 25 = .ok (.ifCond .eq 31, 3) by decide +kernel) (by decide) (by unfold inI; decide) (fun _ => ?_) (fun hc => absurd hc (by decide))
      refine x_aload_n (pc := 56) (show decode mX1_sortOut.2.1 56 = .ok (.aload_n 0, 1) by decide +kernel) rfl rfl ?_
      refine x_getR (pc := 57) f1_28 rfl rfl (show decode mX1_sortOut.2.1 57 = .ok (.getfield 28, 3) by decide +kernel) ?_
      refine x_aload_n (pc := 60) (show decode mX1_sortOut.2.1 60 = .ok (.aload_n 0, 1) by decide +kernel) rfl rfl ?_
      refine x_getI (pc := 61) (ki := 1) f1_15 rfl rfl (by decide) rfl (show decode mX1_sortOut.2.1 61 = .ok (.getfield 15, 3) by decide +kernel) ?_
      refine x_aload_n (pc := 64) (show decode mX1_sortOut.2.1 64 = .ok (.aload_n 1, 1) by decide +kernel) rfl rfl ?_
      refine x_getR (pc := 65) f1_56 rfl rfl (show decode mX1_sortOut.2.1 65 = .ok (.getfield 56, 3) by decide +kernel) ?_
      refine x_iload_n (pc := 68) (show decode mX1_sortOut.2.1 68 = .ok (.iload_n 2, 1) by decide +kernel) rfl rfl ?_
      obtain ⟨hg, hR⟩ := hR
      refine x_iald (pc := 69) rfl (by decide) hg (show decode mX1_sortOut.2.1 69 = .ok (.iaload, 1) by decide +kernel) ?_
      obtain ⟨hg, hR⟩ := hR
      refine x_iast (pc := 70) rfl (by decide) hg (show decode mX1_sortOut.2.1 70 = .ok (.iastore, 1) by decide +kernel) ?_
      refine x_aload_n (pc := 71) (show decode mX1_sortOut.2.1 71 = .ok (.aload_n 0, 1) by decide +kernel) rfl rfl ?_
      refine x_dup (pc := 72) (show decode mX1_sortOut.2.1 72 = .ok (.dup, 1) by decide +kernel) rfl ?_
      refine x_getI (pc := 73) (ki := 1) f1_15 rfl rfl (by decide) rfl (show decode mX1_sortOut.2.1 73 = .ok (.getfield 15, 3) by decide +kernel) ?_
      refine x_iconst (pc := 76) (n := 1) (show decode mX1_sortOut.2.1 76 = .ok (.iconst 1, 1) by decide +kernel) ?_
      refine x_iadd (pc := 77) (show decode mX1_sortOut.2.1 77 = .ok (.iadd, 1) by decide +kernel) ?_
      refine x_putI (pc := 78) (ki := 1) f1_15 fp1_1 rfl rfl rfl (show decode mX1_sortOut.2.1 78 = .ok (.putfield 15, 3) by decide +kernel) ?_
      refine x_iinc (pc := 81) (ls' := [some (.inr (.inr 39)), some (.inr (.inr 1)), some (.inl (x2 + 1))]) (show decode mX1_sortOut.2.1 81 = .ok (.iinc 2 1, 3) by decide +kernel) (by decide) rfl rfl ?_
      refine x_goto (pc := 84) (tgt := 12) (show decode mX1_sortOut.2.1 84 = .ok (.goto (-72), 3) by decide +kernel) (by decide) ?_
      exact hR
set_option maxRecDepth 4000 in
theorem sg_X1_mayJoin_0 {d : Nat} {x1 x2 x3 : Int} {h : xH} {Q : Int → xH → Prop} (hd : 1 ≤ d)
    (hR : (inI x3 ∧ 0 ≤ x2 ∧ x2 ≤ 31) ∧ (inI (xandI (x3 / 2 ^ (Int.toNat x2)) 1)) ∧ (¬ (xandI (x3 / 2 ^ (Int.toNat x2)) 1) = 0 → Q 0 h) ∧ ((xandI (x3 / 2 ^ (Int.toNat x2)) 1) = 0 → (0 ≤ x2 ∧ x2 < 10) ∧ cI wdC (d - 1) mX3_rowOfTurn [.inl (h 41 x2)] h (fun r2 h1 => (0 ≤ x1 ∧ x1 < 10) ∧ cI wdC (d - 1) mX3_rowOfTurn [.inl (h1 40 x1)] h1 (fun r4 h3 => (inI r2 ∧ inI r4) ∧ (r4 ≤ r2 → Q 0 h3) ∧ (r2 < r4 → Q 1 h3))))) :
    gI wdC d mX1_mayJoin 0 [some (.inr (.inr 39)), some (.inl x1), some (.inl x2), some (.inl x3)] h Q := by
  unfold gI
  refine x_iload_n (pc := 0) (show decode mX1_mayJoin.2.1 0 = .ok (.iload_n 3, 1) by decide +kernel) rfl rfl ?_
  refine x_iload_n (pc := 1) (show decode mX1_mayJoin.2.1 1 = .ok (.iload_n 2, 1) by decide +kernel) rfl rfl ?_
  obtain ⟨hg, hR⟩ := hR
  refine x_ishr (pc := 2) (show decode mX1_mayJoin.2.1 2 = .ok (.ishr, 1) by decide +kernel) hg ?_
  refine x_iconst (pc := 3) (n := 1) (show decode mX1_mayJoin.2.1 3 = .ok (.iconst 1, 1) by decide +kernel) ?_
  refine x_iand (pc := 4) (show decode mX1_mayJoin.2.1 4 = .ok (.iand, 1) by decide +kernel) ?_
  obtain ⟨hg, hR⟩ := hR
  refine x_if_ne (pc := 5) (tgt := 33) (show decode mX1_mayJoin.2.1 5 = .ok (.ifCond .ne 28, 3) by decide +kernel) (by decide) hg (fun hc => ?_) (fun hc => ?_)
  · replace hR := hR.1 hc
    refine x_iconst (pc := 33) (n := 0) (show decode mX1_mayJoin.2.1 33 = .ok (.iconst 0, 1) by decide +kernel) ?_
    exact x_zret (pc := 34) rfl (show decode mX1_mayJoin.2.1 34 = .ok (.ireturn, 1) by decide +kernel) (by decide) ⟨_, rfl, hR⟩
  · replace hR := hR.2 hc
    refine x_aload_n (pc := 8) (show decode mX1_mayJoin.2.1 8 = .ok (.aload_n 0, 1) by decide +kernel) rfl rfl ?_
    refine x_getR (pc := 9) f1_28 rfl rfl (show decode mX1_mayJoin.2.1 9 = .ok (.getfield 28, 3) by decide +kernel) ?_
    refine x_iload_n (pc := 12) (show decode mX1_mayJoin.2.1 12 = .ok (.iload_n 2, 1) by decide +kernel) rfl rfl ?_
    obtain ⟨hg, hR⟩ := hR
    refine x_iald (pc := 13) rfl (by decide) hg (show decode mX1_mayJoin.2.1 13 = .ok (.iaload, 1) by decide +kernel) ?_
    refine x_callS (pc := 14) (As := [.inl (h 41 x2)]) (rest := []) (lk1_59 rfl) sm_X3_rowOfTurn (Nat.le_of_ble_eq_true rfl) (Nat.le_of_ble_eq_true rfl) (show decode mX1_mayJoin.2.1 14 = .ok (.invokestatic 59, 3) by decide +kernel) hd hR (fun r9 h1 hq => ?_)
    obtain ⟨r2, rfl, hR⟩ := hq
    show xG _ _ _ 17 _ [.inl r2] _ _
    refine x_aload_n (pc := 17) (show decode mX1_mayJoin.2.1 17 = .ok (.aload_n 0, 1) by decide +kernel) rfl rfl ?_
    refine x_getR (pc := 18) f1_24 rfl rfl (show decode mX1_mayJoin.2.1 18 = .ok (.getfield 24, 3) by decide +kernel) ?_
    refine x_iload_n (pc := 21) (show decode mX1_mayJoin.2.1 21 = .ok (.iload_n 1, 1) by decide +kernel) rfl rfl ?_
    obtain ⟨hg, hR⟩ := hR
    refine x_iald (pc := 22) rfl (by decide) hg (show decode mX1_mayJoin.2.1 22 = .ok (.iaload, 1) by decide +kernel) ?_
    refine x_callS (pc := 23) (As := [.inl (h1 40 x1)]) (rest := [.inl r2]) (lk1_59 rfl) sm_X3_rowOfTurn (Nat.le_of_ble_eq_true rfl) (Nat.le_of_ble_eq_true rfl) (show decode mX1_mayJoin.2.1 23 = .ok (.invokestatic 59, 3) by decide +kernel) hd hR (fun r9 h3 hq => ?_)
    obtain ⟨r4, rfl, hR⟩ := hq
    show xG _ _ _ 26 _ [.inl r4, .inl r2] _ _
    obtain ⟨hg, hR⟩ := hR
    refine x_icmp_ge (pc := 26) (tgt := 33) (show decode mX1_mayJoin.2.1 26 = .ok (.if_icmp .ge 7, 3) by decide +kernel) (by decide) ⟨hg.1, hg.2⟩ (fun hc => ?_) (fun hc => ?_)
    · replace hR := hR.1 hc
      refine x_iconst (pc := 33) (n := 0) (show decode mX1_mayJoin.2.1 33 = .ok (.iconst 0, 1) by decide +kernel) ?_
      exact x_zret (pc := 34) rfl (show decode mX1_mayJoin.2.1 34 = .ok (.ireturn, 1) by decide +kernel) (by decide) ⟨_, rfl, hR⟩
    · replace hR := hR.2 hc
      refine x_iconst (pc := 29) (n := 1) (show decode mX1_mayJoin.2.1 29 = .ok (.iconst 1, 1) by decide +kernel) ?_
      refine x_goto (pc := 30) (tgt := 34) (show decode mX1_mayJoin.2.1 30 = .ok (.goto 4, 3) by decide +kernel) (by decide) ?_
      exact x_zret (pc := 34) rfl (show decode mX1_mayJoin.2.1 34 = .ok (.ireturn, 1) by decide +kernel) (by decide) ⟨_, rfl, hR⟩
set_option maxRecDepth 4000 in
theorem sg_X1_difference_0 {d : Nat} {x1 x2 : Int} {h : xH} {Q : Int → xH → Prop} (hd : 1 ≤ d)
    (hR : (0 ≤ x2 ∧ x2 < 10) ∧ cI wdC (d - 1) mX3_slotOfTurn [.inl (h 41 x2)] h (fun r2 h1 => (0 ≤ x1 ∧ x1 < 10) ∧ cI wdC (d - 1) mX3_slotOfTurn [.inl (h1 40 x1)] h1 (fun r4 h3 => (inI (r2 - r4)) ∧ Q (max (r2 - r4) (-(r2 - r4))) h3))) :
    gI wdC d mX1_difference 0 [some (.inr (.inr 39)), some (.inl x1), some (.inl x2)] h Q := by
  unfold gI
  refine x_aload_n (pc := 0) (show decode mX1_difference.2.1 0 = .ok (.aload_n 0, 1) by decide +kernel) rfl rfl ?_
  refine x_getR (pc := 1) f1_28 rfl rfl (show decode mX1_difference.2.1 1 = .ok (.getfield 28, 3) by decide +kernel) ?_
  refine x_iload_n (pc := 4) (show decode mX1_difference.2.1 4 = .ok (.iload_n 2, 1) by decide +kernel) rfl rfl ?_
  obtain ⟨hg, hR⟩ := hR
  refine x_iald (pc := 5) rfl (by decide) hg (show decode mX1_difference.2.1 5 = .ok (.iaload, 1) by decide +kernel) ?_
  refine x_callS (pc := 6) (As := [.inl (h 41 x2)]) (rest := []) (lk1_63 rfl) sm_X3_slotOfTurn (Nat.le_of_ble_eq_true rfl) (Nat.le_of_ble_eq_true rfl) (show decode mX1_difference.2.1 6 = .ok (.invokestatic 63, 3) by decide +kernel) hd hR (fun r9 h1 hq => ?_)
  obtain ⟨r2, rfl, hR⟩ := hq
  show xG _ _ _ 9 _ [.inl r2] _ _
  refine x_aload_n (pc := 9) (show decode mX1_difference.2.1 9 = .ok (.aload_n 0, 1) by decide +kernel) rfl rfl ?_
  refine x_getR (pc := 10) f1_24 rfl rfl (show decode mX1_difference.2.1 10 = .ok (.getfield 24, 3) by decide +kernel) ?_
  refine x_iload_n (pc := 13) (show decode mX1_difference.2.1 13 = .ok (.iload_n 1, 1) by decide +kernel) rfl rfl ?_
  obtain ⟨hg, hR⟩ := hR
  refine x_iald (pc := 14) rfl (by decide) hg (show decode mX1_difference.2.1 14 = .ok (.iaload, 1) by decide +kernel) ?_
  refine x_callS (pc := 15) (As := [.inl (h1 40 x1)]) (rest := [.inl r2]) (lk1_63 rfl) sm_X3_slotOfTurn (Nat.le_of_ble_eq_true rfl) (Nat.le_of_ble_eq_true rfl) (show decode mX1_difference.2.1 15 = .ok (.invokestatic 63, 3) by decide +kernel) hd hR (fun r9 h3 hq => ?_)
  obtain ⟨r4, rfl, hR⟩ := hq
  show xG _ _ _ 18 _ [.inl r4, .inl r2] _ _
  refine x_isub (pc := 18) (show decode mX1_difference.2.1 18 = .ok (.isub, 1) by decide +kernel) ?_
  obtain ⟨hg, hR⟩ := hR
  refine x_mabs (pc := 19) (b := 0) (tblG_m3 226 rfl rfl) MA_st M_in MA_cd hg (Nat.le_of_ble_eq_true rfl) hd (show decode mX1_difference.2.1 19 = .ok (.invokestatic 66, 3) by decide +kernel) ?_
  exact x_iret (pc := 22) rfl (show decode mX1_difference.2.1 22 = .ok (.ireturn, 1) by decide +kernel) ⟨_, rfl, hR⟩
set_option maxRecDepth 4000 in
theorem sg_X1_bestFrom_0 {d : Nat} {x1 x2 : Int} {h : xH} {Q : Int → xH → Prop}
    (hR : (0 ≤ (h 39 1) ∧ (h 39 1) ≤ 31) ∧ (0 ≤ (xorI (x1 * 2 ^ (Int.toNat (h 39 1))) x2) ∧ (xorI (x1 * 2 ^ (Int.toNat (h 39 1))) x2) < 1024) ∧ Q (h 43 (xorI (x1 * 2 ^ (Int.toNat (h 39 1))) x2)) h) :
    gI wdC d mX1_bestFrom 0 [some (.inr (.inr 39)), some (.inl x1), some (.inl x2)] h Q := by
  unfold gI
  refine x_aload_n (pc := 0) (show decode mX1_bestFrom.2.1 0 = .ok (.aload_n 0, 1) by decide +kernel) rfl rfl ?_
  refine x_getR (pc := 1) f1_34 rfl rfl (show decode mX1_bestFrom.2.1 1 = .ok (.getfield 34, 3) by decide +kernel) ?_
  refine x_iload_n (pc := 4) (show decode mX1_bestFrom.2.1 4 = .ok (.iload_n 1, 1) by decide +kernel) rfl rfl ?_
  refine x_aload_n (pc := 5) (show decode mX1_bestFrom.2.1 5 = .ok (.aload_n 0, 1) by decide +kernel) rfl rfl ?_
  refine x_getI (pc := 6) (ki := 1) f1_15 rfl rfl (by decide) rfl (show decode mX1_bestFrom.2.1 6 = .ok (.getfield 15, 3) by decide +kernel) ?_
  obtain ⟨hg, hR⟩ := hR
  refine x_ishl (pc := 9) (show decode mX1_bestFrom.2.1 9 = .ok (.ishl, 1) by decide +kernel) hg ?_
  refine x_iload_n (pc := 10) (show decode mX1_bestFrom.2.1 10 = .ok (.iload_n 2, 1) by decide +kernel) rfl rfl ?_
  refine x_ior (pc := 11) (show decode mX1_bestFrom.2.1 11 = .ok (.ior, 1) by decide +kernel) ?_
  obtain ⟨hg, hR⟩ := hR
  refine x_iald (pc := 12) rfl (by decide) hg (show decode mX1_bestFrom.2.1 12 = .ok (.iaload, 1) by decide +kernel) ?_
  exact x_iret (pc := 13) rfl (show decode mX1_bestFrom.2.1 13 = .ok (.ireturn, 1) by decide +kernel) ⟨_, rfl, hR⟩
set_option maxRecDepth 4000 in
theorem sg_X1_worthOf_0 {d : Nat} {x1 x2 x3 : Int} {h : xH} {Q : Int → xH → Prop} (hd : 1 ≤ d)
    (hR : cI wdC (d - 1) mX1_difference [.inr (.inr 39), .inl x1, .inl x2] h (fun r2 h1 => (0 ≤ x2 ∧ x2 ≤ 31) ∧ cI wdC (d - 1) mX1_bestFrom [.inr (.inr 39), .inl (x1 + 1), .inl (xorI x3 (1 * 2 ^ (Int.toNat x2)))] h1 (fun r4 h3 => Q ((1000 - r2) + r4) h3))) :
    gI wdC d mX1_worthOf 0 [some (.inr (.inr 39)), some (.inl x1), some (.inl x2), some (.inl x3)] h Q := by
  unfold gI
  refine x_sipush (pc := 0) (n := 1000) (show decode mX1_worthOf.2.1 0 = .ok (.sipush 1000, 3) by decide +kernel) rfl ?_
  refine x_aload_n (pc := 3) (show decode mX1_worthOf.2.1 3 = .ok (.aload_n 0, 1) by decide +kernel) rfl rfl ?_
  refine x_iload_n (pc := 4) (show decode mX1_worthOf.2.1 4 = .ok (.iload_n 1, 1) by decide +kernel) rfl rfl ?_
  refine x_iload_n (pc := 5) (show decode mX1_worthOf.2.1 5 = .ok (.iload_n 2, 1) by decide +kernel) rfl rfl ?_
  refine x_callV (pc := 6) (As := [.inl x1, .inl x2]) (rest := [.inl 1000]) (lk1_71 rfl) im_X1_difference sl_X1_difference rfl rfl rfl (Nat.le_of_ble_eq_true rfl) (Nat.le_of_ble_eq_true rfl) (show decode mX1_worthOf.2.1 6 = .ok (.invokevirtual 71, 3) by decide +kernel) hd hR (fun r9 h1 hq => ?_)
  obtain ⟨r2, rfl, hR⟩ := hq
  show xG _ _ _ 9 _ [.inl r2, .inl 1000] _ _
  refine x_isub (pc := 9) (show decode mX1_worthOf.2.1 9 = .ok (.isub, 1) by decide +kernel) ?_
  refine x_aload_n (pc := 10) (show decode mX1_worthOf.2.1 10 = .ok (.aload_n 0, 1) by decide +kernel) rfl rfl ?_
  refine x_iload_n (pc := 11) (show decode mX1_worthOf.2.1 11 = .ok (.iload_n 1, 1) by decide +kernel) rfl rfl ?_
  refine x_iconst (pc := 12) (n := 1) (show decode mX1_worthOf.2.1 12 = .ok (.iconst 1, 1) by decide +kernel) ?_
  refine x_iadd (pc := 13) (show decode mX1_worthOf.2.1 13 = .ok (.iadd, 1) by decide +kernel) ?_
  refine x_iload_n (pc := 14) (show decode mX1_worthOf.2.1 14 = .ok (.iload_n 3, 1) by decide +kernel) rfl rfl ?_
  refine x_iconst (pc := 15) (n := 1) (show decode mX1_worthOf.2.1 15 = .ok (.iconst 1, 1) by decide +kernel) ?_
  refine x_iload_n (pc := 16) (show decode mX1_worthOf.2.1 16 = .ok (.iload_n 2, 1) by decide +kernel) rfl rfl ?_
  obtain ⟨hg, hR⟩ := hR
  refine x_ishl (pc := 17) (show decode mX1_worthOf.2.1 17 = .ok (.ishl, 1) by decide +kernel) hg ?_
  refine x_ior (pc := 18) (show decode mX1_worthOf.2.1 18 = .ok (.ior, 1) by decide +kernel) ?_
  refine x_callV (pc := 19) (As := [.inl (x1 + 1), .inl (xorI x3 (1 * 2 ^ (Int.toNat x2)))]) (rest := [.inl (1000 - r2)]) (lk1_75 rfl) im_X1_bestFrom sl_X1_bestFrom rfl rfl rfl (Nat.le_of_ble_eq_true rfl) (Nat.le_of_ble_eq_true rfl) (show decode mX1_worthOf.2.1 19 = .ok (.invokevirtual 75, 3) by decide +kernel) hd hR (fun r9 h3 hq => ?_)
  obtain ⟨r4, rfl, hR⟩ := hq
  show xG _ _ _ 22 _ [.inl r4, .inl (1000 - r2)] _ _
  refine x_iadd (pc := 22) (show decode mX1_worthOf.2.1 22 = .ok (.iadd, 1) by decide +kernel) ?_
  exact x_iret (pc := 23) rfl (show decode mX1_worthOf.2.1 23 = .ok (.ireturn, 1) by decide +kernel) ⟨_, rfl, hR⟩
set_option maxRecDepth 4000 in
theorem sg_X1_weigh_0 {d : Nat} {h : xH} {Q : xH → Prop}
    (hR : (0 ≤ (h 39 1) ∧ (h 39 1) ≤ 31) ∧ gV wdC d mX1_weigh 9 [some (.inr (.inr 39)), some (.inl (1 * 2 ^ (Int.toNat (h 39 1)))), some (.inl 0), none] h Q) :
    gV wdC d mX1_weigh 0 [some (.inr (.inr 39)), none, none, none] h Q := by
  unfold gV
  refine x_iconst (pc := 0) (n := 1) (show decode mX1_weigh.2.1 0 = .ok (.iconst 1, 1) by decide +kernel) ?_
  refine x_aload_n (pc := 1) (show decode mX1_weigh.2.1 1 = .ok (.aload_n 0, 1) by decide +kernel) rfl rfl ?_
  refine x_getI (pc := 2) (ki := 1) f1_15 rfl rfl (by decide) rfl (show decode mX1_weigh.2.1 2 = .ok (.getfield 15, 3) by decide +kernel) ?_
  obtain ⟨hg, hR⟩ := hR
  refine x_ishl (pc := 5) (show decode mX1_weigh.2.1 5 = .ok (.ishl, 1) by decide +kernel) hg ?_
  refine x_istore_n (pc := 6) (ls' := [some (.inr (.inr 39)), some (.inl (1 * 2 ^ (Int.toNat (h 39 1)))), none, none]) (show decode mX1_weigh.2.1 6 = .ok (.istore_n 1, 1) by decide +kernel) rfl (by decide) rfl ?_
  refine x_iconst (pc := 7) (n := 0) (show decode mX1_weigh.2.1 7 = .ok (.iconst 0, 1) by decide +kernel) ?_
  refine x_istore_n (pc := 8) (ls' := [some (.inr (.inr 39)), some (.inl (1 * 2 ^ (Int.toNat (h 39 1)))), some (.inl 0), none]) (show decode mX1_weigh.2.1 8 = .ok (.istore_n 2, 1) by decide +kernel) rfl (by decide) rfl ?_
  exact hR
set_option maxRecDepth 4000 in
theorem sg_X1_weigh_9 {d : Nat} {x1 x2 : Int} {h : xH} {Q : xH → Prop}
    (hR : (inI x2 ∧ inI x1) ∧ (x1 ≤ x2 → gV wdC d mX1_weigh 44 [some (.inr (.inr 39)), some (.inl x1), some (.inl ((h 39 0) - 1)), none] h Q) ∧ (x2 < x1 → (0 ≤ (h 39 1) ∧ (h 39 1) ≤ 31) ∧ (0 ≤ (xorI ((h 39 0) * 2 ^ (Int.toNat (h 39 1))) x2) ∧ (xorI ((h 39 0) * 2 ^ (Int.toNat (h 39 1))) x2) < 1024) ∧ gV wdC d mX1_weigh 9 [some (.inr (.inr 39)), some (.inl x1), some (.inl (x2 + 1)), none] (xu h 43 (xorI ((h 39 0) * 2 ^ (Int.toNat (h 39 1))) x2) 0) Q)) :
    gV wdC d mX1_weigh 9 [some (.inr (.inr 39)), some (.inl x1), some (.inl x2), none] h Q := by
  unfold gV
  refine x_iload_n (pc := 9) (show decode mX1_weigh.2.1 9 = .ok (.iload_n 2, 1) by decide +kernel) rfl rfl ?_
  refine x_iload_n (pc := 10) (show decode mX1_weigh.2.1 10 = .ok (.iload_n 1, 1) by decide +kernel) rfl rfl ?_
  obtain ⟨hg, hR⟩ := hR
  refine x_icmp_ge (pc := 11) (tgt := 37) (show decode mX1_weigh.2.1 11 = .ok (.if_icmp .ge 26, 3) by decide +kernel) (by decide) ⟨hg.1, hg.2⟩ (fun hc => ?_) (fun hc => ?_)
  · replace hR := hR.1 hc
    refine x_aload_n (pc := 37) (show decode mX1_weigh.2.1 37 = .ok (.aload_n 0, 1) by decide +kernel) rfl rfl ?_
    refine x_getI (pc := 38) (ki := 0) f1_9 rfl rfl (by decide) rfl (show decode mX1_weigh.2.1 38 = .ok (.getfield 9, 3) by decide +kernel) ?_
    refine x_iconst (pc := 41) (n := 1) (show decode mX1_weigh.2.1 41 = .ok (.iconst 1, 1) by decide +kernel) ?_
    refine x_isub (pc := 42) (show decode mX1_weigh.2.1 42 = .ok (.isub, 1) by decide +kernel) ?_
    refine x_istore_n (pc := 43) (ls' := [some (.inr (.inr 39)), some (.inl x1), some (.inl ((h 39 0) - 1)), none]) (show decode mX1_weigh.2.1 43 = .ok (.istore_n 2, 1) by decide +kernel) rfl (by decide) rfl ?_
    exact hR
  · replace hR := hR.2 hc
    refine x_aload_n (pc := 14) (show decode mX1_weigh.2.1 14 = .ok (.aload_n 0, 1) by decide +kernel) rfl rfl ?_
    refine x_getR (pc := 15) f1_34 rfl rfl (show decode mX1_weigh.2.1 15 = .ok (.getfield 34, 3) by decide +kernel) ?_
    refine x_aload_n (pc := 18) (show decode mX1_weigh.2.1 18 = .ok (.aload_n 0, 1) by decide +kernel) rfl rfl ?_
    refine x_getI (pc := 19) (ki := 0) f1_9 rfl rfl (by decide) rfl (show decode mX1_weigh.2.1 19 = .ok (.getfield 9, 3) by decide +kernel) ?_
    refine x_aload_n (pc := 22) (show decode mX1_weigh.2.1 22 = .ok (.aload_n 0, 1) by decide +kernel) rfl rfl ?_
    refine x_getI (pc := 23) (ki := 1) f1_15 rfl rfl (by decide) rfl (show decode mX1_weigh.2.1 23 = .ok (.getfield 15, 3) by decide +kernel) ?_
    obtain ⟨hg, hR⟩ := hR
    refine x_ishl (pc := 26) (show decode mX1_weigh.2.1 26 = .ok (.ishl, 1) by decide +kernel) hg ?_
    refine x_iload_n (pc := 27) (show decode mX1_weigh.2.1 27 = .ok (.iload_n 2, 1) by decide +kernel) rfl rfl ?_
    refine x_ior (pc := 28) (show decode mX1_weigh.2.1 28 = .ok (.ior, 1) by decide +kernel) ?_
    refine x_iconst (pc := 29) (n := 0) (show decode mX1_weigh.2.1 29 = .ok (.iconst 0, 1) by decide +kernel) ?_
    obtain ⟨hg, hR⟩ := hR
    refine x_iast (pc := 30) rfl (by decide) hg (show decode mX1_weigh.2.1 30 = .ok (.iastore, 1) by decide +kernel) ?_
    refine x_iinc (pc := 31) (ls' := [some (.inr (.inr 39)), some (.inl x1), some (.inl (x2 + 1)), none]) (show decode mX1_weigh.2.1 31 = .ok (.iinc 2 1, 3) by decide +kernel) (by decide) rfl rfl ?_
    refine x_goto (pc := 34) (tgt := 9) (show decode mX1_weigh.2.1 34 = .ok (.goto (-25), 3) by decide +kernel) (by decide) ?_
    exact hR
set_option maxRecDepth 4000 in
theorem sg_X1_weigh_44 {d : Nat} {x1 x2 : Int} {h : xH} {Q : xH → Prop}
    (hR : (inI x2) ∧ (x2 < 0 → Q h) ∧ (0 ≤ x2 → gV wdC d mX1_weigh 50 [some (.inr (.inr 39)), some (.inl x1), some (.inl x2), some (.inl 0)] h Q)) :
    gV wdC d mX1_weigh 44 [some (.inr (.inr 39)), some (.inl x1), some (.inl x2), none] h Q := by
  unfold gV
  refine x_iload_n (pc := 44) (show decode mX1_weigh.2.1 44 = .ok (.iload_n 2, 1) by decide +kernel) rfl rfl ?_
  obtain ⟨hg, hR⟩ := hR
  refine x_if_lt (pc := 45) (tgt := 97) (show decode mX1_weigh.2.1 45 = .ok (.ifCond .lt 52, 3) by decide +kernel) (by decide) hg (fun hc => ?_) (fun hc => ?_)
  · replace hR := hR.1 hc
    exact x_vret (pc := 97) rfl (show decode mX1_weigh.2.1 97 = .ok (.return_, 1) by decide +kernel) ⟨rfl, hR⟩
  · replace hR := hR.2 hc
    refine x_iconst (pc := 48) (n := 0) (show decode mX1_weigh.2.1 48 = .ok (.iconst 0, 1) by decide +kernel) ?_
    refine x_istore_n (pc := 49) (ls' := [some (.inr (.inr 39)), some (.inl x1), some (.inl x2), some (.inl 0)]) (show decode mX1_weigh.2.1 49 = .ok (.istore_n 3, 1) by decide +kernel) rfl (by decide) rfl ?_
    exact hR
set_option maxRecDepth 4000 in
theorem sg_X1_weigh_50 {d : Nat} {x1 x2 x3 : Int} {h : xH} {Q : xH → Prop} (hd : 1 ≤ d)
    (hR : (inI x3 ∧ inI x1) ∧ (x1 ≤ x3 → gV wdC d mX1_weigh 44 [some (.inr (.inr 39)), some (.inl x1), some (.inl (x2 + (-1))), none] h Q) ∧ (x3 < x1 → cI wdC (d - 1) mJ_bitCount [.inl x3] h (fun r2 h1 => (inI r2 ∧ inI x2) ∧ (r2 ≤ x2 → (0 ≤ (h1 39 1) ∧ (h1 39 1) ≤ 31) ∧ cI wdC (d - 1) mX1_bestOf [.inr (.inr 39), .inl x2, .inl x3] h1 (fun r4 h3 => (0 ≤ (xorI (x2 * 2 ^ (Int.toNat (h1 39 1))) x3) ∧ (xorI (x2 * 2 ^ (Int.toNat (h1 39 1))) x3) < 1024) ∧ gV wdC d mX1_weigh 50 [some (.inr (.inr 39)), some (.inl x1), some (.inl x2), some (.inl (x3 + 1))] (xu h3 43 (xorI (x2 * 2 ^ (Int.toNat (h1 39 1))) x3) r4) Q)) ∧ (x2 < r2 → gV wdC d mX1_weigh 50 [some (.inr (.inr 39)), some (.inl x1), some (.inl x2), some (.inl (x3 + 1))] h1 Q)))) :
    gV wdC d mX1_weigh 50 [some (.inr (.inr 39)), some (.inl x1), some (.inl x2), some (.inl x3)] h Q := by
  unfold gV
  refine x_iload_n (pc := 50) (show decode mX1_weigh.2.1 50 = .ok (.iload_n 3, 1) by decide +kernel) rfl rfl ?_
  refine x_iload_n (pc := 51) (show decode mX1_weigh.2.1 51 = .ok (.iload_n 1, 1) by decide +kernel) rfl rfl ?_
  obtain ⟨hg, hR⟩ := hR
  refine x_icmp_ge (pc := 52) (tgt := 91) (show decode mX1_weigh.2.1 52 = .ok (.if_icmp .ge 39, 3) by decide +kernel) (by decide) ⟨hg.1, hg.2⟩ (fun hc => ?_) (fun hc => ?_)
  · replace hR := hR.1 hc
    refine x_iinc (pc := 91) (ls' := [some (.inr (.inr 39)), some (.inl x1), some (.inl (x2 + (-1))), some (.inl x3)]) (show decode mX1_weigh.2.1 91 = .ok (.iinc 2 (-1), 3) by decide +kernel) (by decide) rfl rfl ?_
    refine x_goto (pc := 94) (tgt := 44) (show decode mX1_weigh.2.1 94 = .ok (.goto (-50), 3) by decide +kernel) (by decide) ?_
    exact x_weak (xle_get (by repeat' constructor)) hR
  · replace hR := hR.2 hc
    refine x_iload_n (pc := 55) (show decode mX1_weigh.2.1 55 = .ok (.iload_n 3, 1) by decide +kernel) rfl rfl ?_
    refine x_callS (pc := 56) (As := [.inl x3]) (rest := []) (lk1_78 rfl) sm_J_bitCount (Nat.le_of_ble_eq_true rfl) (Nat.le_of_ble_eq_true rfl) (show decode mX1_weigh.2.1 56 = .ok (.invokestatic 78, 3) by decide +kernel) hd hR (fun r9 h1 hq => ?_)
    obtain ⟨r2, rfl, hR⟩ := hq
    show xG _ _ _ 59 _ [.inl r2] _ _
    refine x_iload_n (pc := 59) (show decode mX1_weigh.2.1 59 = .ok (.iload_n 2, 1) by decide +kernel) rfl rfl ?_
    obtain ⟨hg, hR⟩ := hR
    refine x_icmp_le (pc := 60) (tgt := 66) (show decode mX1_weigh.2.1 60 = .ok (.if_icmp .le 6, 3) by decide +kernel) (by decide) ⟨hg.1, hg.2⟩ (fun hc => ?_) (fun hc => ?_)
    · replace hR := hR.1 hc
      refine x_aload_n (pc := 66) (show decode mX1_weigh.2.1 66 = .ok (.aload_n 0, 1) by decide +kernel) rfl rfl ?_
      refine x_getR (pc := 67) f1_34 rfl rfl (show decode mX1_weigh.2.1 67 = .ok (.getfield 34, 3) by decide +kernel) ?_
      refine x_iload_n (pc := 70) (show decode mX1_weigh.2.1 70 = .ok (.iload_n 2, 1) by decide +kernel) rfl rfl ?_
      refine x_aload_n (pc := 71) (show decode mX1_weigh.2.1 71 = .ok (.aload_n 0, 1) by decide +kernel) rfl rfl ?_
      refine x_getI (pc := 72) (ki := 1) f1_15 rfl rfl (by decide) rfl (show decode mX1_weigh.2.1 72 = .ok (.getfield 15, 3) by decide +kernel) ?_
      obtain ⟨hg, hR⟩ := hR
      refine x_ishl (pc := 75) (show decode mX1_weigh.2.1 75 = .ok (.ishl, 1) by decide +kernel) hg ?_
      refine x_iload_n (pc := 76) (show decode mX1_weigh.2.1 76 = .ok (.iload_n 3, 1) by decide +kernel) rfl rfl ?_
      refine x_ior (pc := 77) (show decode mX1_weigh.2.1 77 = .ok (.ior, 1) by decide +kernel) ?_
      refine x_aload_n (pc := 78) (show decode mX1_weigh.2.1 78 = .ok (.aload_n 0, 1) by decide +kernel) rfl rfl ?_
      refine x_iload_n (pc := 79) (show decode mX1_weigh.2.1 79 = .ok (.iload_n 2, 1) by decide +kernel) rfl rfl ?_
      refine x_iload_n (pc := 80) (show decode mX1_weigh.2.1 80 = .ok (.iload_n 3, 1) by decide +kernel) rfl rfl ?_
      refine x_callV (pc := 81) (As := [.inl x2, .inl x3]) (rest := [.inl (xorI (x2 * 2 ^ (Int.toNat (h1 39 1))) x3), .inr (.inr 43)]) (lk1_83 rfl) im_X1_bestOf sl_X1_bestOf rfl rfl rfl (Nat.le_of_ble_eq_true rfl) (Nat.le_of_ble_eq_true rfl) (show decode mX1_weigh.2.1 81 = .ok (.invokevirtual 83, 3) by decide +kernel) hd hR (fun r9 h3 hq => ?_)
      obtain ⟨r4, rfl, hR⟩ := hq
      show xG _ _ _ 84 _ [.inl r4, .inl (xorI (x2 * 2 ^ (Int.toNat (h1 39 1))) x3), .inr (.inr 43)] _ _
      obtain ⟨hg, hR⟩ := hR
      refine x_iast (pc := 84) rfl (by decide) hg (show decode mX1_weigh.2.1 84 = .ok (.iastore, 1) by decide +kernel) ?_
      refine x_iinc (pc := 85) (ls' := [some (.inr (.inr 39)), some (.inl x1), some (.inl x2), some (.inl (x3 + 1))]) (show decode mX1_weigh.2.1 85 = .ok (.iinc 3 1, 3) by decide +kernel) (by decide) rfl rfl ?_
      refine x_goto (pc := 88) (tgt := 50) (show decode mX1_weigh.2.1 88 = .ok (.goto (-38), 3) by decide +kernel) (by decide) ?_
      exact hR
    · replace hR := hR.2 hc
      refine x_goto (pc := 63) (tgt := 85) (show decode mX1_weigh.2.1 63 = .ok (.goto 22, 3) by decide +kernel) (by decide) ?_
      refine x_iinc (pc := 85) (ls' := [some (.inr (.inr 39)), some (.inl x1), some (.inl x2), some (.inl (x3 + 1))]) (show decode mX1_weigh.2.1 85 = .ok (.iinc 3 1, 3) by decide +kernel) (by decide) rfl rfl ?_
      refine x_goto (pc := 88) (tgt := 50) (show decode mX1_weigh.2.1 88 = .ok (.goto (-38), 3) by decide +kernel) (by decide) ?_
      exact hR
set_option maxRecDepth 4000 in
theorem sg_X1_bestOf_0 {d : Nat} {x1 x2 : Int} {h : xH} {Q : Int → xH → Prop} (hd : 1 ≤ d)
    (hR : cI wdC (d - 1) mX1_bestFrom [.inr (.inr 39), .inl (x1 + 1), .inl x2] h (fun r2 h1 => gI wdC d mX1_bestOf 12 [some (.inr (.inr 39)), some (.inl x1), some (.inl x2), some (.inl r2), some (.inl 0)] h1 Q)) :
    gI wdC d mX1_bestOf 0 [some (.inr (.inr 39)), some (.inl x1), some (.inl x2), none, none] h Q := by
  unfold gI
  refine x_aload_n (pc := 0) (show decode mX1_bestOf.2.1 0 = .ok (.aload_n 0, 1) by decide +kernel) rfl rfl ?_
  refine x_iload_n (pc := 1) (show decode mX1_bestOf.2.1 1 = .ok (.iload_n 1, 1) by decide +kernel) rfl rfl ?_
  refine x_iconst (pc := 2) (n := 1) (show decode mX1_bestOf.2.1 2 = .ok (.iconst 1, 1) by decide +kernel) ?_
  refine x_iadd (pc := 3) (show decode mX1_bestOf.2.1 3 = .ok (.iadd, 1) by decide +kernel) ?_
  refine x_iload_n (pc := 4) (show decode mX1_bestOf.2.1 4 = .ok (.iload_n 2, 1) by decide +kernel) rfl rfl ?_
  refine x_callV (pc := 5) (As := [.inl (x1 + 1), .inl x2]) (rest := []) (lk1_75 rfl) im_X1_bestFrom sl_X1_bestFrom rfl rfl rfl (Nat.le_of_ble_eq_true rfl) (Nat.le_of_ble_eq_true rfl) (show decode mX1_bestOf.2.1 5 = .ok (.invokevirtual 75, 3) by decide +kernel) hd hR (fun r9 h1 hq => ?_)
  obtain ⟨r2, rfl, hR⟩ := hq
  show xG _ _ _ 8 _ [.inl r2] _ _
  refine x_istore_n (pc := 8) (ls' := [some (.inr (.inr 39)), some (.inl x1), some (.inl x2), some (.inl r2), none]) (show decode mX1_bestOf.2.1 8 = .ok (.istore_n 3, 1) by decide +kernel) rfl (by decide) rfl ?_
  refine x_iconst (pc := 9) (n := 0) (show decode mX1_bestOf.2.1 9 = .ok (.iconst 0, 1) by decide +kernel) ?_
  refine x_istore (pc := 10) (ls' := [some (.inr (.inr 39)), some (.inl x1), some (.inl x2), some (.inl r2), some (.inl 0)]) (show decode mX1_bestOf.2.1 10 = .ok (.istore 4, 2) by decide +kernel) (by decide) rfl ?_
  exact hR
set_option maxRecDepth 4000 in
theorem sg_X1_bestOf_12 {d : Nat} {x1 x2 x3 x4 : Int} {h : xH} {Q : Int → xH → Prop} (hd : 1 ≤ d)
    (hR : (inI x4 ∧ inI (h 39 1)) ∧ ((h 39 1) ≤ x4 → Q x3 h) ∧ (x4 < (h 39 1) → cB wdC (d - 1) mX1_mayJoin [.inr (.inr 39), .inl x1, .inl x4, .inl x2] h (fun h1 => cI wdC (d - 1) mX1_worthOf [.inr (.inr 39), .inl x1, .inl x4, .inl x2] h1 (fun r3 h2 => (inI x3 ∧ inI r3) ∧ gI wdC d mX1_bestOf 12 [some (.inr (.inr 39)), some (.inl x1), some (.inl x2), some (.inl (max x3 r3)), some (.inl (x4 + 1))] h2 Q)) (fun h1 => gI wdC d mX1_bestOf 12 [some (.inr (.inr 39)), some (.inl x1), some (.inl x2), some (.inl x3), some (.inl (x4 + 1))] h1 Q))) :
    gI wdC d mX1_bestOf 12 [some (.inr (.inr 39)), some (.inl x1), some (.inl x2), some (.inl x3), some (.inl x4)] h Q := by
  unfold gI
  refine x_iload (pc := 12) (show decode mX1_bestOf.2.1 12 = .ok (.iload 4, 2) by decide +kernel) rfl ?_
  refine x_aload_n (pc := 14) (show decode mX1_bestOf.2.1 14 = .ok (.aload_n 0, 1) by decide +kernel) rfl rfl ?_
  refine x_getI (pc := 15) (ki := 1) f1_15 rfl rfl (by decide) rfl (show decode mX1_bestOf.2.1 15 = .ok (.getfield 15, 3) by decide +kernel) ?_
  obtain ⟨hg, hR⟩ := hR
  refine x_icmp_ge (pc := 18) (tgt := 51) (show decode mX1_bestOf.2.1 18 = .ok (.if_icmp .ge 33, 3) by decide +kernel) (by decide) ⟨hg.1, hg.2⟩ (fun hc => ?_) (fun hc => ?_)
  · replace hR := hR.1 hc
    refine x_iload_n (pc := 51) (show decode mX1_bestOf.2.1 51 = .ok (.iload_n 3, 1) by decide +kernel) rfl rfl ?_
    exact x_iret (pc := 52) rfl (show decode mX1_bestOf.2.1 52 = .ok (.ireturn, 1) by decide +kernel) ⟨_, rfl, hR⟩
  · replace hR := hR.2 hc
    refine x_aload_n (pc := 21) (show decode mX1_bestOf.2.1 21 = .ok (.aload_n 0, 1) by decide +kernel) rfl rfl ?_
    refine x_iload_n (pc := 22) (show decode mX1_bestOf.2.1 22 = .ok (.iload_n 1, 1) by decide +kernel) rfl rfl ?_
    refine x_iload (pc := 23) (show decode mX1_bestOf.2.1 23 = .ok (.iload 4, 2) by decide +kernel) rfl ?_
    refine x_iload_n (pc := 25) (show decode mX1_bestOf.2.1 25 = .ok (.iload_n 2, 1) by decide +kernel) rfl rfl ?_
    refine x_callV (pc := 26) (As := [.inl x1, .inl x4, .inl x2]) (rest := []) (lk1_86 rfl) im_X1_mayJoin sl_X1_mayJoin rfl rfl rfl (Nat.le_of_ble_eq_true rfl) (Nat.le_of_ble_eq_true rfl) (show decode mX1_bestOf.2.1 26 = .ok (.invokevirtual 86, 3) by decide +kernel) hd hR (fun r9 h1 hq => ?_)
    obtain ⟨r8, rfl, hq⟩ := hq
    rcases hq with ⟨rfl, hR⟩ | ⟨rfl, hR⟩
    · show xG _ _ _ 29 _ [.inl 1] _ _
      refine x_if_eq (pc := 29) (tgt := 45) (show decode mX1_bestOf.2.1 29 = .ok (.ifCond .eq 16, 3) by decide +kernel) (by decide) (by unfold inI; decide) (fun hc => absurd hc (by decide)) (fun _ => ?_)
      refine x_iload_n (pc := 32) (show decode mX1_bestOf.2.1 32 = .ok (.iload_n 3, 1) by decide +kernel) rfl rfl ?_
      refine x_aload_n (pc := 33) (show decode mX1_bestOf.2.1 33 = .ok (.aload_n 0, 1) by decide +kernel) rfl rfl ?_
      refine x_iload_n (pc := 34) (show decode mX1_bestOf.2.1 34 = .ok (.iload_n 1, 1) by decide +kernel) rfl rfl ?_
      refine x_iload (pc := 35) (show decode mX1_bestOf.2.1 35 = .ok (.iload 4, 2) by decide +kernel) rfl ?_
      refine x_iload_n (pc := 37) (show decode mX1_bestOf.2.1 37 = .ok (.iload_n 2, 1) by decide +kernel) rfl rfl ?_
      refine x_callV (pc := 38) (As := [.inl x1, .inl x4, .inl x2]) (rest := [.inl x3]) (lk1_90 rfl) im_X1_worthOf sl_X1_worthOf rfl rfl rfl (Nat.le_of_ble_eq_true rfl) (Nat.le_of_ble_eq_true rfl) (show decode mX1_bestOf.2.1 38 = .ok (.invokevirtual 90, 3) by decide +kernel) hd hR (fun r9 h2 hq => ?_)
      obtain ⟨r3, rfl, hR⟩ := hq
      show xG _ _ _ 41 _ [.inl r3, .inl x3] _ _
      obtain ⟨hg, hR⟩ := hR
      refine x_mmax (pc := 41) (tblG_m3 227 rfl rfl) MX_st M_in MX_cd ⟨hg.1, hg.2⟩ (Nat.le_of_ble_eq_true rfl) hd (show decode mX1_bestOf.2.1 41 = .ok (.invokestatic 94, 3) by decide +kernel) ?_
      refine x_istore_n (pc := 44) (ls' := [some (.inr (.inr 39)), some (.inl x1), some (.inl x2), some (.inl (max x3 r3)), some (.inl x4)]) (show decode mX1_bestOf.2.1 44 = .ok (.istore_n 3, 1) by decide +kernel) rfl (by decide) rfl ?_
      refine x_iinc (pc := 45) (ls' := [some (.inr (.inr 39)), some (.inl x1), some (.inl x2), some (.inl (max x3 r3)), some (.inl (x4 + 1))]) (show decode mX1_bestOf.2.1 45 = .ok (.iinc 4 1, 3) by decide +kernel) (by decide) rfl rfl ?_
      refine x_goto (pc := 48) (tgt := 12) (show decode mX1_bestOf.2.1 48 = .ok (.goto (-36), 3) by decide +kernel) (by decide) ?_
      exact hR
    · show xG _ _ _ 29 _ [.inl 0] _ _
      refine x_if_eq (pc := 29) (tgt := 45) (show decode mX1_bestOf.2.1 29 = .ok (.ifCond .eq 16, 3) by decide +kernel) (by decide) (by unfold inI; decide) (fun _ => ?_) (fun hc => absurd hc (by decide))
      refine x_iinc (pc := 45) (ls' := [some (.inr (.inr 39)), some (.inl x1), some (.inl x2), some (.inl x3), some (.inl (x4 + 1))]) (show decode mX1_bestOf.2.1 45 = .ok (.iinc 4 1, 3) by decide +kernel) (by decide) rfl rfl ?_
      refine x_goto (pc := 48) (tgt := 12) (show decode mX1_bestOf.2.1 48 = .ok (.goto (-36), 3) by decide +kernel) (by decide) ?_
      exact hR
set_option maxRecDepth 4000 in
theorem sg_X1_choose_0 {d : Nat} {h : xH} {Q : xH → Prop}
    (hR : gV wdC d mX1_choose 14 [some (.inr (.inr 39)), some (.inl 0), some (.inl 0), none] (xu (xu h 39 2 0) 39 3 0) Q) :
    gV wdC d mX1_choose 0 [some (.inr (.inr 39)), none, none, none] h Q := by
  unfold gV
  refine x_aload_n (pc := 0) (show decode mX1_choose.2.1 0 = .ok (.aload_n 0, 1) by decide +kernel) rfl rfl ?_
  refine x_iconst (pc := 1) (n := 0) (show decode mX1_choose.2.1 1 = .ok (.iconst 0, 1) by decide +kernel) ?_
  refine x_putI (pc := 2) (ki := 2) f1_18 fp1_2 rfl rfl rfl (show decode mX1_choose.2.1 2 = .ok (.putfield 18, 3) by decide +kernel) ?_
  refine x_aload_n (pc := 5) (show decode mX1_choose.2.1 5 = .ok (.aload_n 0, 1) by decide +kernel) rfl rfl ?_
  refine x_iconst (pc := 6) (n := 0) (show decode mX1_choose.2.1 6 = .ok (.iconst 0, 1) by decide +kernel) ?_
  refine x_putI (pc := 7) (ki := 3) f1_21 fp1_3 rfl rfl rfl (show decode mX1_choose.2.1 7 = .ok (.putfield 21, 3) by decide +kernel) ?_
  refine x_iconst (pc := 10) (n := 0) (show decode mX1_choose.2.1 10 = .ok (.iconst 0, 1) by decide +kernel) ?_
  refine x_istore_n (pc := 11) (ls' := [some (.inr (.inr 39)), some (.inl 0), none, none]) (show decode mX1_choose.2.1 11 = .ok (.istore_n 1, 1) by decide +kernel) rfl (by decide) rfl ?_
  refine x_iconst (pc := 12) (n := 0) (show decode mX1_choose.2.1 12 = .ok (.iconst 0, 1) by decide +kernel) ?_
  refine x_istore_n (pc := 13) (ls' := [some (.inr (.inr 39)), some (.inl 0), some (.inl 0), none]) (show decode mX1_choose.2.1 13 = .ok (.istore_n 2, 1) by decide +kernel) rfl (by decide) rfl ?_
  exact hR
set_option maxRecDepth 4000 in
theorem sg_X1_choose_14 {d : Nat} {x1 x2 : Int} {h : xH} {Q : xH → Prop} (hd : 1 ≤ d)
    (hR : (inI x2 ∧ inI (h 39 0)) ∧ ((h 39 0) ≤ x2 → Q h) ∧ (x2 < (h 39 0) → cI wdC (d - 1) mX1_firstOut [.inr (.inr 39), .inl x2, .inl x1] h (fun r2 h1 => (0 ≤ x2 ∧ x2 < 10) ∧ (inI r2) ∧ (0 ≤ r2 → (0 ≤ r2 ∧ r2 ≤ 31) ∧ cI wdC (d - 1) mX1_difference [.inr (.inr 39), .inl x2, .inl r2] (xu (xu h1 42 x2 r2) 39 2 ((h1 39 2) + 1)) (fun r4 h3 => gV wdC d mX1_choose 14 [some (.inr (.inr 39)), some (.inl (xorI x1 (1 * 2 ^ (Int.toNat r2)))), some (.inl (x2 + 1)), none] (xu h3 39 3 ((h1 39 3) + r4)) Q)) ∧ (r2 < 0 → gV wdC d mX1_choose 14 [some (.inr (.inr 39)), some (.inl x1), some (.inl (x2 + 1)), none] (xu h1 42 x2 r2) Q)))) :
    gV wdC d mX1_choose 14 [some (.inr (.inr 39)), some (.inl x1), some (.inl x2), none] h Q := by
  unfold gV
  refine x_iload_n (pc := 14) (show decode mX1_choose.2.1 14 = .ok (.iload_n 2, 1) by decide +kernel) rfl rfl ?_
  refine x_aload_n (pc := 15) (show decode mX1_choose.2.1 15 = .ok (.aload_n 0, 1) by decide +kernel) rfl rfl ?_
  refine x_getI (pc := 16) (ki := 0) f1_9 rfl rfl (by decide) rfl (show decode mX1_choose.2.1 16 = .ok (.getfield 9, 3) by decide +kernel) ?_
  obtain ⟨hg, hR⟩ := hR
  refine x_icmp_ge (pc := 19) (tgt := 80) (show decode mX1_choose.2.1 19 = .ok (.if_icmp .ge 61, 3) by decide +kernel) (by decide) ⟨hg.1, hg.2⟩ (fun hc => ?_) (fun hc => ?_)
  · replace hR := hR.1 hc
    exact x_vret (pc := 80) rfl (show decode mX1_choose.2.1 80 = .ok (.return_, 1) by decide +kernel) ⟨rfl, hR⟩
  · replace hR := hR.2 hc
    refine x_aload_n (pc := 22) (show decode mX1_choose.2.1 22 = .ok (.aload_n 0, 1) by decide +kernel) rfl rfl ?_
    refine x_iload_n (pc := 23) (show decode mX1_choose.2.1 23 = .ok (.iload_n 2, 1) by decide +kernel) rfl rfl ?_
    refine x_iload_n (pc := 24) (show decode mX1_choose.2.1 24 = .ok (.iload_n 1, 1) by decide +kernel) rfl rfl ?_
    refine x_callV (pc := 25) (As := [.inl x2, .inl x1]) (rest := []) (lk1_97 rfl) im_X1_firstOut sl_X1_firstOut rfl rfl rfl (Nat.le_of_ble_eq_true rfl) (Nat.le_of_ble_eq_true rfl) (show decode mX1_choose.2.1 25 = .ok (.invokevirtual 97, 3) by decide +kernel) hd hR (fun r9 h1 hq => ?_)
    obtain ⟨r2, rfl, hR⟩ := hq
    show xG _ _ _ 28 _ [.inl r2] _ _
    refine x_istore_n (pc := 28) (ls' := [some (.inr (.inr 39)), some (.inl x1), some (.inl x2), some (.inl r2)]) (show decode mX1_choose.2.1 28 = .ok (.istore_n 3, 1) by decide +kernel) rfl (by decide) rfl ?_
    refine x_aload_n (pc := 29) (show decode mX1_choose.2.1 29 = .ok (.aload_n 0, 1) by decide +kernel) rfl rfl ?_
    refine x_getR (pc := 30) f1_31 rfl rfl (show decode mX1_choose.2.1 30 = .ok (.getfield 31, 3) by decide +kernel) ?_
    refine x_iload_n (pc := 33) (show decode mX1_choose.2.1 33 = .ok (.iload_n 2, 1) by decide +kernel) rfl rfl ?_
    refine x_iload_n (pc := 34) (show decode mX1_choose.2.1 34 = .ok (.iload_n 3, 1) by decide +kernel) rfl rfl ?_
    obtain ⟨hg, hR⟩ := hR
    refine x_iast (pc := 35) rfl (by decide) hg (show decode mX1_choose.2.1 35 = .ok (.iastore, 1) by decide +kernel) ?_
    refine x_iload_n (pc := 36) (show decode mX1_choose.2.1 36 = .ok (.iload_n 3, 1) by decide +kernel) rfl rfl ?_
    obtain ⟨hg, hR⟩ := hR
    refine x_if_ge (pc := 37) (tgt := 43) (show decode mX1_choose.2.1 37 = .ok (.ifCond .ge 6, 3) by decide +kernel) (by decide) hg (fun hc => ?_) (fun hc => ?_)
    · replace hR := hR.1 hc
      refine x_iload_n (pc := 43) (show decode mX1_choose.2.1 43 = .ok (.iload_n 1, 1) by decide +kernel) rfl rfl ?_
      refine x_iconst (pc := 44) (n := 1) (show decode mX1_choose.2.1 44 = .ok (.iconst 1, 1) by decide +kernel) ?_
      refine x_iload_n (pc := 45) (show decode mX1_choose.2.1 45 = .ok (.iload_n 3, 1) by decide +kernel) rfl rfl ?_
      obtain ⟨hg, hR⟩ := hR
      refine x_ishl (pc := 46) (show decode mX1_choose.2.1 46 = .ok (.ishl, 1) by decide +kernel) hg ?_
      refine x_ior (pc := 47) (show decode mX1_choose.2.1 47 = .ok (.ior, 1) by decide +kernel) ?_
      refine x_istore_n (pc := 48) (ls' := [some (.inr (.inr 39)), some (.inl (xorI x1 (1 * 2 ^ (Int.toNat r2)))), some (.inl x2), some (.inl r2)]) (show decode mX1_choose.2.1 48 = .ok (.istore_n 1, 1) by decide +kernel) rfl (by decide) rfl ?_
      refine x_aload_n (pc := 49) (show decode mX1_choose.2.1 49 = .ok (.aload_n 0, 1) by decide +kernel) rfl rfl ?_
      refine x_dup (pc := 50) (show decode mX1_choose.2.1 50 = .ok (.dup, 1) by decide +kernel) rfl ?_
      refine x_getI (pc := 51) (ki := 2) f1_18 rfl rfl (by decide) rfl (show decode mX1_choose.2.1 51 = .ok (.getfield 18, 3) by decide +kernel) ?_
      refine x_iconst (pc := 54) (n := 1) (show decode mX1_choose.2.1 54 = .ok (.iconst 1, 1) by decide +kernel) ?_
      refine x_iadd (pc := 55) (show decode mX1_choose.2.1 55 = .ok (.iadd, 1) by decide +kernel) ?_
      refine x_putI (pc := 56) (ki := 2) f1_18 fp1_2 rfl rfl rfl (show decode mX1_choose.2.1 56 = .ok (.putfield 18, 3) by decide +kernel) ?_
      refine x_aload_n (pc := 59) (show decode mX1_choose.2.1 59 = .ok (.aload_n 0, 1) by decide +kernel) rfl rfl ?_
      refine x_dup (pc := 60) (show decode mX1_choose.2.1 60 = .ok (.dup, 1) by decide +kernel) rfl ?_
      refine x_getI (pc := 61) (ki := 3) f1_21 rfl rfl (by decide) rfl (show decode mX1_choose.2.1 61 = .ok (.getfield 21, 3) by decide +kernel) ?_
      refine x_aload_n (pc := 64) (show decode mX1_choose.2.1 64 = .ok (.aload_n 0, 1) by decide +kernel) rfl rfl ?_
      refine x_iload_n (pc := 65) (show decode mX1_choose.2.1 65 = .ok (.iload_n 2, 1) by decide +kernel) rfl rfl ?_
      refine x_iload_n (pc := 66) (show decode mX1_choose.2.1 66 = .ok (.iload_n 3, 1) by decide +kernel) rfl rfl ?_
      refine x_callV (pc := 67) (As := [.inl x2, .inl r2]) (rest := [.inl (h1 39 3), .inr (.inr 39)]) (lk1_71 rfl) im_X1_difference sl_X1_difference rfl rfl rfl (Nat.le_of_ble_eq_true rfl) (Nat.le_of_ble_eq_true rfl) (show decode mX1_choose.2.1 67 = .ok (.invokevirtual 71, 3) by decide +kernel) hd hR (fun r9 h3 hq => ?_)
      obtain ⟨r4, rfl, hR⟩ := hq
      show xG _ _ _ 70 _ [.inl r4, .inl (h1 39 3), .inr (.inr 39)] _ _
      refine x_iadd (pc := 70) (show decode mX1_choose.2.1 70 = .ok (.iadd, 1) by decide +kernel) ?_
      refine x_putI (pc := 71) (ki := 3) f1_21 fp1_3 rfl rfl rfl (show decode mX1_choose.2.1 71 = .ok (.putfield 21, 3) by decide +kernel) ?_
      refine x_iinc (pc := 74) (ls' := [some (.inr (.inr 39)), some (.inl (xorI x1 (1 * 2 ^ (Int.toNat r2)))), some (.inl (x2 + 1)), some (.inl r2)]) (show decode mX1_choose.2.1 74 = .ok (.iinc 2 1, 3) by decide +kernel) (by decide) rfl rfl ?_
      refine x_goto (pc := 77) (tgt := 14) (show decode mX1_choose.2.1 77 = .ok (.goto (-63), 3) by decide +kernel) (by decide) ?_
      exact x_weak (xle_get (by repeat' constructor)) hR
    · replace hR := hR.2 hc
      refine x_goto (pc := 40) (tgt := 74) (show decode mX1_choose.2.1 40 = .ok (.goto 34, 3) by decide +kernel) (by decide) ?_
      refine x_iinc (pc := 74) (ls' := [some (.inr (.inr 39)), some (.inl x1), some (.inl (x2 + 1)), some (.inl r2)]) (show decode mX1_choose.2.1 74 = .ok (.iinc 2 1, 3) by decide +kernel) (by decide) rfl rfl ?_
      refine x_goto (pc := 77) (tgt := 14) (show decode mX1_choose.2.1 77 = .ok (.goto (-63), 3) by decide +kernel) (by decide) ?_
      exact x_weak (xle_get (by repeat' constructor)) hR
set_option maxRecDepth 4000 in
theorem sg_X1_firstOut_0 {d : Nat} {x1 x2 : Int} {h : xH} {Q : Int → xH → Prop}
    (hR : gI wdC d mX1_firstOut 2 [some (.inr (.inr 39)), some (.inl x1), some (.inl x2), some (.inl 0)] h Q) :
    gI wdC d mX1_firstOut 0 [some (.inr (.inr 39)), some (.inl x1), some (.inl x2), none] h Q := by
  unfold gI
  refine x_iconst (pc := 0) (n := 0) (show decode mX1_firstOut.2.1 0 = .ok (.iconst 0, 1) by decide +kernel) ?_
  refine x_istore_n (pc := 1) (ls' := [some (.inr (.inr 39)), some (.inl x1), some (.inl x2), some (.inl 0)]) (show decode mX1_firstOut.2.1 1 = .ok (.istore_n 3, 1) by decide +kernel) rfl (by decide) rfl ?_
  exact hR
set_option maxRecDepth 4000 in
theorem sg_X1_firstOut_2 {d : Nat} {x1 x2 x3 : Int} {h : xH} {Q : Int → xH → Prop} (hd : 1 ≤ d)
    (hR : (inI x3 ∧ inI (h 39 1)) ∧ ((h 39 1) ≤ x3 → Q (-1) h) ∧ (x3 < (h 39 1) → cB wdC (d - 1) mX1_mayJoin [.inr (.inr 39), .inl x1, .inl x3, .inl x2] h (fun h1 => cI wdC (d - 1) mX1_worthOf [.inr (.inr 39), .inl x1, .inl x3, .inl x2] h1 (fun r3 h2 => cI wdC (d - 1) mX1_bestFrom [.inr (.inr 39), .inl x1, .inl x2] h2 (fun r5 h4 => (inI r3 ∧ inI r5) ∧ (¬ r3 = r5 → gI wdC d mX1_firstOut 2 [some (.inr (.inr 39)), some (.inl x1), some (.inl x2), some (.inl (x3 + 1))] h4 Q) ∧ (r3 = r5 → Q x3 h4)))) (fun h1 => gI wdC d mX1_firstOut 2 [some (.inr (.inr 39)), some (.inl x1), some (.inl x2), some (.inl (x3 + 1))] h1 Q))) :
    gI wdC d mX1_firstOut 2 [some (.inr (.inr 39)), some (.inl x1), some (.inl x2), some (.inl x3)] h Q := by
  unfold gI
  refine x_iload_n (pc := 2) (show decode mX1_firstOut.2.1 2 = .ok (.iload_n 3, 1) by decide +kernel) rfl rfl ?_
  refine x_aload_n (pc := 3) (show decode mX1_firstOut.2.1 3 = .ok (.aload_n 0, 1) by decide +kernel) rfl rfl ?_
  refine x_getI (pc := 4) (ki := 1) f1_15 rfl rfl (by decide) rfl (show decode mX1_firstOut.2.1 4 = .ok (.getfield 15, 3) by decide +kernel) ?_
  obtain ⟨hg, hR⟩ := hR
  refine x_icmp_ge (pc := 7) (tgt := 44) (show decode mX1_firstOut.2.1 7 = .ok (.if_icmp .ge 37, 3) by decide +kernel) (by decide) ⟨hg.1, hg.2⟩ (fun hc => ?_) (fun hc => ?_)
  · replace hR := hR.1 hc
    refine x_iconst (pc := 44) (n := (-1)) (show decode mX1_firstOut.2.1 44 = .ok (.iconst (-1), 1) by decide +kernel) ?_
    exact x_iret (pc := 45) rfl (show decode mX1_firstOut.2.1 45 = .ok (.ireturn, 1) by decide +kernel) ⟨_, rfl, hR⟩
  · replace hR := hR.2 hc
    refine x_aload_n (pc := 10) (show decode mX1_firstOut.2.1 10 = .ok (.aload_n 0, 1) by decide +kernel) rfl rfl ?_
    refine x_iload_n (pc := 11) (show decode mX1_firstOut.2.1 11 = .ok (.iload_n 1, 1) by decide +kernel) rfl rfl ?_
    refine x_iload_n (pc := 12) (show decode mX1_firstOut.2.1 12 = .ok (.iload_n 3, 1) by decide +kernel) rfl rfl ?_
    refine x_iload_n (pc := 13) (show decode mX1_firstOut.2.1 13 = .ok (.iload_n 2, 1) by decide +kernel) rfl rfl ?_
    refine x_callV (pc := 14) (As := [.inl x1, .inl x3, .inl x2]) (rest := []) (lk1_86 rfl) im_X1_mayJoin sl_X1_mayJoin rfl rfl rfl (Nat.le_of_ble_eq_true rfl) (Nat.le_of_ble_eq_true rfl) (show decode mX1_firstOut.2.1 14 = .ok (.invokevirtual 86, 3) by decide +kernel) hd hR (fun r9 h1 hq => ?_)
    obtain ⟨r8, rfl, hq⟩ := hq
    rcases hq with ⟨rfl, hR⟩ | ⟨rfl, hR⟩
    · show xG _ _ _ 17 _ [.inl 1] _ _
      refine x_if_eq (pc := 17) (tgt := 38) (show decode mX1_firstOut.2.1 17 = .ok (.ifCond .eq 21, 3) by decide +kernel) (by decide) (by unfold inI; decide) (fun hc => absurd hc (by decide)) (fun _ => ?_)
      refine x_aload_n (pc := 20) (show decode mX1_firstOut.2.1 20 = .ok (.aload_n 0, 1) by decide +kernel) rfl rfl ?_
      refine x_iload_n (pc := 21) (show decode mX1_firstOut.2.1 21 = .ok (.iload_n 1, 1) by decide +kernel) rfl rfl ?_
      refine x_iload_n (pc := 22) (show decode mX1_firstOut.2.1 22 = .ok (.iload_n 3, 1) by decide +kernel) rfl rfl ?_
      refine x_iload_n (pc := 23) (show decode mX1_firstOut.2.1 23 = .ok (.iload_n 2, 1) by decide +kernel) rfl rfl ?_
      refine x_callV (pc := 24) (As := [.inl x1, .inl x3, .inl x2]) (rest := []) (lk1_90 rfl) im_X1_worthOf sl_X1_worthOf rfl rfl rfl (Nat.le_of_ble_eq_true rfl) (Nat.le_of_ble_eq_true rfl) (show decode mX1_firstOut.2.1 24 = .ok (.invokevirtual 90, 3) by decide +kernel) hd hR (fun r9 h2 hq => ?_)
      obtain ⟨r3, rfl, hR⟩ := hq
      show xG _ _ _ 27 _ [.inl r3] _ _
      refine x_aload_n (pc := 27) (show decode mX1_firstOut.2.1 27 = .ok (.aload_n 0, 1) by decide +kernel) rfl rfl ?_
      refine x_iload_n (pc := 28) (show decode mX1_firstOut.2.1 28 = .ok (.iload_n 1, 1) by decide +kernel) rfl rfl ?_
      refine x_iload_n (pc := 29) (show decode mX1_firstOut.2.1 29 = .ok (.iload_n 2, 1) by decide +kernel) rfl rfl ?_
      refine x_callV (pc := 30) (As := [.inl x1, .inl x2]) (rest := [.inl r3]) (lk1_75 rfl) im_X1_bestFrom sl_X1_bestFrom rfl rfl rfl (Nat.le_of_ble_eq_true rfl) (Nat.le_of_ble_eq_true rfl) (show decode mX1_firstOut.2.1 30 = .ok (.invokevirtual 75, 3) by decide +kernel) hd hR (fun r9 h4 hq => ?_)
      obtain ⟨r5, rfl, hR⟩ := hq
      show xG _ _ _ 33 _ [.inl r5, .inl r3] _ _
      obtain ⟨hg, hR⟩ := hR
      refine x_icmp_ne (pc := 33) (tgt := 38) (show decode mX1_firstOut.2.1 33 = .ok (.if_icmp .ne 5, 3) by decide +kernel) (by decide) ⟨hg.1, hg.2⟩ (fun hc => ?_) (fun hc => ?_)
      · replace hR := hR.1 hc
        refine x_iinc (pc := 38) (ls' := [some (.inr (.inr 39)), some (.inl x1), some (.inl x2), some (.inl (x3 + 1))]) (show decode mX1_firstOut.2.1 38 = .ok (.iinc 3 1, 3) by decide +kernel) (by decide) rfl rfl ?_
        refine x_goto (pc := 41) (tgt := 2) (show decode mX1_firstOut.2.1 41 = .ok (.goto (-39), 3) by decide +kernel) (by decide) ?_
        exact hR
      · replace hR := hR.2 hc
        refine x_iload_n (pc := 36) (show decode mX1_firstOut.2.1 36 = .ok (.iload_n 3, 1) by decide +kernel) rfl rfl ?_
        exact x_iret (pc := 37) rfl (show decode mX1_firstOut.2.1 37 = .ok (.ireturn, 1) by decide +kernel) ⟨_, rfl, hR⟩
    · show xG _ _ _ 17 _ [.inl 0] _ _
      refine x_if_eq (pc := 17) (tgt := 38) (show decode mX1_firstOut.2.1 17 = .ok (.ifCond .eq 21, 3) by decide +kernel) (by decide) (by unfold inI; decide) (fun _ => ?_) (fun hc => absurd hc (by decide))
      refine x_iinc (pc := 38) (ls' := [some (.inr (.inr 39)), some (.inl x1), some (.inl x2), some (.inl (x3 + 1))]) (show decode mX1_firstOut.2.1 38 = .ok (.iinc 3 1, 3) by decide +kernel) (by decide) rfl rfl ?_
      refine x_goto (pc := 41) (tgt := 2) (show decode mX1_firstOut.2.1 41 = .ok (.goto (-39), 3) by decide +kernel) (by decide) ?_
      exact hR
set_option maxRecDepth 4000 in
theorem sg_X2_study_0 {d : Nat} {h : xH} {Q : xH → Prop} (hd : 1 ≤ d)
    (hR : cV wdC (d - 1) mX2_sortByRow [.inr (.inr 26), .inr (.inr 1)] h (fun h1 => cV wdC (d - 1) mJ_fill [.inr (.inr 31), .inl (-1)] h1 (fun h2 => gV wdC d mX2_study 15 [some (.inr (.inr 26)), some (.inr (.inr 1)), some (.inl 0), none, none] h2 Q))) :
    gV wdC d mX2_study 0 [some (.inr (.inr 26)), some (.inr (.inr 1)), none, none, none] h Q := by
  unfold gV
  refine x_aload_n (pc := 0) (show decode mX2_study.2.1 0 = .ok (.aload_n 0, 1) by decide +kernel) rfl rfl ?_
  refine x_aload_n (pc := 1) (show decode mX2_study.2.1 1 = .ok (.aload_n 1, 1) by decide +kernel) rfl rfl ?_
  refine x_callV (pc := 2) (As := [.inr (.inr 1)]) (rest := []) (lk2_28 rfl) im_X2_sortByRow sl_X2_sortByRow rfl rfl rfl (Nat.le_of_ble_eq_true rfl) (Nat.le_of_ble_eq_true rfl) (show decode mX2_study.2.1 2 = .ok (.invokevirtual 28, 3) by decide +kernel) hd hR (fun r9 h1 hq => ?_)
  obtain ⟨rfl, hR⟩ := hq
  show xG _ _ _ 5 _ [] _ _
  refine x_aload_n (pc := 5) (show decode mX2_study.2.1 5 = .ok (.aload_n 0, 1) by decide +kernel) rfl rfl ?_
  refine x_getR (pc := 6) f2_25 rfl rfl (show decode mX2_study.2.1 6 = .ok (.getfield 25, 3) by decide +kernel) ?_
  refine x_iconst (pc := 9) (n := (-1)) (show decode mX2_study.2.1 9 = .ok (.iconst (-1), 1) by decide +kernel) ?_
  refine x_callS (pc := 10) (As := [.inr (.inr 31), .inl (-1)]) (rest := []) (lk2_32 rfl) sm_J_fill (Nat.le_of_ble_eq_true rfl) (Nat.le_of_ble_eq_true rfl) (show decode mX2_study.2.1 10 = .ok (.invokestatic 32, 3) by decide +kernel) hd hR (fun r9 h2 hq => ?_)
  obtain ⟨rfl, hR⟩ := hq
  show xG _ _ _ 13 _ [] _ _
  refine x_iconst (pc := 13) (n := 0) (show decode mX2_study.2.1 13 = .ok (.iconst 0, 1) by decide +kernel) ?_
  refine x_istore_n (pc := 14) (ls' := [some (.inr (.inr 26)), some (.inr (.inr 1)), some (.inl 0), none, none]) (show decode mX2_study.2.1 14 = .ok (.istore_n 2, 1) by decide +kernel) rfl (by decide) rfl ?_
  exact hR
set_option maxRecDepth 4000 in
theorem sg_X2_study_15 {d : Nat} {x2 : Int} {h : xH} {Q : xH → Prop} (hd : 1 ≤ d)
    (hR : (inI x2 ∧ inI (h 1 2)) ∧ ((h 1 2) ≤ x2 → Q h) ∧ (x2 < (h 1 2) → (0 ≤ x2 ∧ x2 < 30) ∧ (0 ≤ (h 30 x2) ∧ (h 30 x2) < 30) ∧ (0 ≤ (h 30 x2) ∧ (h 30 x2) < 30) ∧ (0 ≤ (h 30 x2) ∧ (h 30 x2) < 30) ∧ (0 ≤ (h 30 x2) ∧ (h 30 x2) < 30) ∧ (0 ≤ (h 3 (h 30 x2)) ∧ (h 3 (h 30 x2)) < 12) ∧ cV wdC (d - 1) mX2_take [.inr (.inr 26), .inl (h 30 x2), .inl (h 31 (h 3 (h 30 x2)))] (xu (xu (xu h 27 (h 30 x2) 0) 28 (h 30 x2) 0) 29 (h 30 x2) 0) (fun h1 => (0 ≤ ((h 3 (h 30 x2)) + 1) ∧ ((h 3 (h 30 x2)) + 1) < 12) ∧ cV wdC (d - 1) mX2_take [.inr (.inr 26), .inl (h 30 x2), .inl (h1 31 ((h 3 (h 30 x2)) + 1))] h1 (fun h2 => (0 ≤ (h 3 (h 30 x2)) ∧ (h 3 (h 30 x2)) < 12) ∧ (0 ≤ ((h 3 (h 30 x2)) + 1) ∧ ((h 3 (h 30 x2)) + 1) < 12) ∧ gV wdC d mX2_study 15 [some (.inr (.inr 26)), some (.inr (.inr 1)), some (.inl (x2 + 1)), none, none] (xu (xu h2 31 (h 3 (h 30 x2)) (h 30 x2)) 31 ((h 3 (h 30 x2)) + 1) (h 30 x2)) Q)))) :
    gV wdC d mX2_study 15 [some (.inr (.inr 26)), some (.inr (.inr 1)), some (.inl x2), none, none] h Q := by
  unfold gV
  refine x_iload_n (pc := 15) (show decode mX2_study.2.1 15 = .ok (.iload_n 2, 1) by decide +kernel) rfl rfl ?_
  refine x_aload_n (pc := 16) (show decode mX2_study.2.1 16 = .ok (.aload_n 1, 1) by decide +kernel) rfl rfl ?_
  refine x_getI (pc := 17) (ki := 2) f2_38 rfl rfl (by decide) rfl (show decode mX2_study.2.1 17 = .ok (.getfield 38, 3) by decide +kernel) ?_
  obtain ⟨hg, hR⟩ := hR
  refine x_icmp_ge (pc := 20) (tgt := 109) (show decode mX2_study.2.1 20 = .ok (.if_icmp .ge 89, 3) by decide +kernel) (by decide) ⟨hg.1, hg.2⟩ (fun hc => ?_) (fun hc => ?_)
  · replace hR := hR.1 hc
    exact x_vret (pc := 109) rfl (show decode mX2_study.2.1 109 = .ok (.return_, 1) by decide +kernel) ⟨rfl, hR⟩
  · replace hR := hR.2 hc
    refine x_aload_n (pc := 23) (show decode mX2_study.2.1 23 = .ok (.aload_n 0, 1) by decide +kernel) rfl rfl ?_
    refine x_getR (pc := 24) f2_22 rfl rfl (show decode mX2_study.2.1 24 = .ok (.getfield 22, 3) by decide +kernel) ?_
    refine x_iload_n (pc := 27) (show decode mX2_study.2.1 27 = .ok (.iload_n 2, 1) by decide +kernel) rfl rfl ?_
    obtain ⟨hg, hR⟩ := hR
    refine x_iald (pc := 28) rfl (by decide) hg (show decode mX2_study.2.1 28 = .ok (.iaload, 1) by decide +kernel) ?_
    refine x_istore_n (pc := 29) (ls' := [some (.inr (.inr 26)), some (.inr (.inr 1)), some (.inl x2), some (.inl (h 30 x2)), none]) (show decode mX2_study.2.1 29 = .ok (.istore_n 3, 1) by decide +kernel) rfl (by decide) rfl ?_
    refine x_aload_n (pc := 30) (show decode mX2_study.2.1 30 = .ok (.aload_n 1, 1) by decide +kernel) rfl rfl ?_
    refine x_getR (pc := 31) f2_44 rfl rfl (show decode mX2_study.2.1 31 = .ok (.getfield 44, 3) by decide +kernel) ?_
    refine x_iload_n (pc := 34) (show decode mX2_study.2.1 34 = .ok (.iload_n 3, 1) by decide +kernel) rfl rfl ?_
    obtain ⟨hg, hR⟩ := hR
    refine x_iald (pc := 35) rfl (by decide) hg (show decode mX2_study.2.1 35 = .ok (.iaload, 1) by decide +kernel) ?_
    refine x_istore (pc := 36) (ls' := [some (.inr (.inr 26)), some (.inr (.inr 1)), some (.inl x2), some (.inl (h 30 x2)), some (.inl (h 3 (h 30 x2)))]) (show decode mX2_study.2.1 36 = .ok (.istore 4, 2) by decide +kernel) (by decide) rfl ?_
    refine x_aload_n (pc := 38) (show decode mX2_study.2.1 38 = .ok (.aload_n 0, 1) by decide +kernel) rfl rfl ?_
    refine x_getR (pc := 39) f2_9 rfl rfl (show decode mX2_study.2.1 39 = .ok (.getfield 9, 3) by decide +kernel) ?_
    refine x_iload_n (pc := 42) (show decode mX2_study.2.1 42 = .ok (.iload_n 3, 1) by decide +kernel) rfl rfl ?_
    refine x_lconst (pc := 43) (v := 0) (show decode mX2_study.2.1 43 = .ok (.lconst 0, 1) by decide +kernel) rfl ?_
    obtain ⟨hg, hR⟩ := hR
    refine x_last (pc := 44) rfl (by decide) hg (show decode mX2_study.2.1 44 = .ok (.lastore, 1) by decide +kernel) ?_
    refine x_aload_n (pc := 45) (show decode mX2_study.2.1 45 = .ok (.aload_n 0, 1) by decide +kernel) rfl rfl ?_
    refine x_getR (pc := 46) f2_15 rfl rfl (show decode mX2_study.2.1 46 = .ok (.getfield 15, 3) by decide +kernel) ?_
    refine x_iload_n (pc := 49) (show decode mX2_study.2.1 49 = .ok (.iload_n 3, 1) by decide +kernel) rfl rfl ?_
    refine x_lconst (pc := 50) (v := 0) (show decode mX2_study.2.1 50 = .ok (.lconst 0, 1) by decide +kernel) rfl ?_
    obtain ⟨hg, hR⟩ := hR
    refine x_last (pc := 51) rfl (by decide) hg (show decode mX2_study.2.1 51 = .ok (.lastore, 1) by decide +kernel) ?_
    refine x_aload_n (pc := 52) (show decode mX2_study.2.1 52 = .ok (.aload_n 0, 1) by decide +kernel) rfl rfl ?_
    refine x_getR (pc := 53) f2_18 rfl rfl (show decode mX2_study.2.1 53 = .ok (.getfield 18, 3) by decide +kernel) ?_
    refine x_iload_n (pc := 56) (show decode mX2_study.2.1 56 = .ok (.iload_n 3, 1) by decide +kernel) rfl rfl ?_
    refine x_iconst (pc := 57) (n := 0) (show decode mX2_study.2.1 57 = .ok (.iconst 0, 1) by decide +kernel) ?_
    obtain ⟨hg, hR⟩ := hR
    refine x_iast (pc := 58) rfl (by decide) hg (show decode mX2_study.2.1 58 = .ok (.iastore, 1) by decide +kernel) ?_
    refine x_aload_n (pc := 59) (show decode mX2_study.2.1 59 = .ok (.aload_n 0, 1) by decide +kernel) rfl rfl ?_
    refine x_iload_n (pc := 60) (show decode mX2_study.2.1 60 = .ok (.iload_n 3, 1) by decide +kernel) rfl rfl ?_
    refine x_aload_n (pc := 61) (show decode mX2_study.2.1 61 = .ok (.aload_n 0, 1) by decide +kernel) rfl rfl ?_
    refine x_getR (pc := 62) f2_25 rfl rfl (show decode mX2_study.2.1 62 = .ok (.getfield 25, 3) by decide +kernel) ?_
    refine x_iload (pc := 65) (show decode mX2_study.2.1 65 = .ok (.iload 4, 2) by decide +kernel) rfl ?_
    obtain ⟨hg, hR⟩ := hR
    refine x_iald (pc := 67) rfl (by decide) hg (show decode mX2_study.2.1 67 = .ok (.iaload, 1) by decide +kernel) ?_
    refine x_callV (pc := 68) (As := [.inl (h 30 x2), .inl (h 31 (h 3 (h 30 x2)))]) (rest := []) (lk2_47 rfl) im_X2_take sl_X2_take rfl rfl rfl (Nat.le_of_ble_eq_true rfl) (Nat.le_of_ble_eq_true rfl) (show decode mX2_study.2.1 68 = .ok (.invokevirtual 47, 3) by decide +kernel) hd hR (fun r9 h1 hq => ?_)
    obtain ⟨rfl, hR⟩ := hq
    show xG _ _ _ 71 _ [] _ _
    refine x_aload_n (pc := 71) (show decode mX2_study.2.1 71 = .ok (.aload_n 0, 1) by decide +kernel) rfl rfl ?_
    refine x_iload_n (pc := 72) (show decode mX2_study.2.1 72 = .ok (.iload_n 3, 1) by decide +kernel) rfl rfl ?_
    refine x_aload_n (pc := 73) (show decode mX2_study.2.1 73 = .ok (.aload_n 0, 1) by decide +kernel) rfl rfl ?_
    refine x_getR (pc := 74) f2_25 rfl rfl (show decode mX2_study.2.1 74 = .ok (.getfield 25, 3) by decide +kernel) ?_
    refine x_iload (pc := 77) (show decode mX2_study.2.1 77 = .ok (.iload 4, 2) by decide +kernel) rfl ?_
    refine x_iconst (pc := 79) (n := 1) (show decode mX2_study.2.1 79 = .ok (.iconst 1, 1) by decide +kernel) ?_
    refine x_iadd (pc := 80) (show decode mX2_study.2.1 80 = .ok (.iadd, 1) by decide +kernel) ?_
    obtain ⟨hg, hR⟩ := hR
    refine x_iald (pc := 81) rfl (by decide) hg (show decode mX2_study.2.1 81 = .ok (.iaload, 1) by decide +kernel) ?_
    refine x_callV (pc := 82) (As := [.inl (h 30 x2), .inl (h1 31 ((h 3 (h 30 x2)) + 1))]) (rest := []) (lk2_47 rfl) im_X2_take sl_X2_take rfl rfl rfl (Nat.le_of_ble_eq_true rfl) (Nat.le_of_ble_eq_true rfl) (show decode mX2_study.2.1 82 = .ok (.invokevirtual 47, 3) by decide +kernel) hd hR (fun r9 h2 hq => ?_)
    obtain ⟨rfl, hR⟩ := hq
    show xG _ _ _ 85 _ [] _ _
    refine x_aload_n (pc := 85) (show decode mX2_study.2.1 85 = .ok (.aload_n 0, 1) by decide +kernel) rfl rfl ?_
    refine x_getR (pc := 86) f2_25 rfl rfl (show decode mX2_study.2.1 86 = .ok (.getfield 25, 3) by decide +kernel) ?_
    refine x_iload (pc := 89) (show decode mX2_study.2.1 89 = .ok (.iload 4, 2) by decide +kernel) rfl ?_
    refine x_iload_n (pc := 91) (show decode mX2_study.2.1 91 = .ok (.iload_n 3, 1) by decide +kernel) rfl rfl ?_
    obtain ⟨hg, hR⟩ := hR
    refine x_iast (pc := 92) rfl (by decide) hg (show decode mX2_study.2.1 92 = .ok (.iastore, 1) by decide +kernel) ?_
    refine x_aload_n (pc := 93) (show decode mX2_study.2.1 93 = .ok (.aload_n 0, 1) by decide +kernel) rfl rfl ?_
    refine x_getR (pc := 94) f2_25 rfl rfl (show decode mX2_study.2.1 94 = .ok (.getfield 25, 3) by decide +kernel) ?_
    refine x_iload (pc := 97) (show decode mX2_study.2.1 97 = .ok (.iload 4, 2) by decide +kernel) rfl ?_
    refine x_iconst (pc := 99) (n := 1) (show decode mX2_study.2.1 99 = .ok (.iconst 1, 1) by decide +kernel) ?_
    refine x_iadd (pc := 100) (show decode mX2_study.2.1 100 = .ok (.iadd, 1) by decide +kernel) ?_
    refine x_iload_n (pc := 101) (show decode mX2_study.2.1 101 = .ok (.iload_n 3, 1) by decide +kernel) rfl rfl ?_
    obtain ⟨hg, hR⟩ := hR
    refine x_iast (pc := 102) rfl (by decide) hg (show decode mX2_study.2.1 102 = .ok (.iastore, 1) by decide +kernel) ?_
    refine x_iinc (pc := 103) (ls' := [some (.inr (.inr 26)), some (.inr (.inr 1)), some (.inl (x2 + 1)), some (.inl (h 30 x2)), some (.inl (h 3 (h 30 x2)))]) (show decode mX2_study.2.1 103 = .ok (.iinc 2 1, 3) by decide +kernel) (by decide) rfl rfl ?_
    refine x_goto (pc := 106) (tgt := 15) (show decode mX2_study.2.1 106 = .ok (.goto (-91), 3) by decide +kernel) (by decide) ?_
    exact x_weak (xle_get (by repeat' constructor)) hR
set_option maxRecDepth 4000 in
theorem sg_X2_sortByRow_0 {d : Nat} {h : xH} {Q : xH → Prop}
    (hR : gV wdC d mX2_sortByRow 2 [some (.inr (.inr 26)), some (.inr (.inr 1)), some (.inl 0), none] h Q) :
    gV wdC d mX2_sortByRow 0 [some (.inr (.inr 26)), some (.inr (.inr 1)), none, none] h Q := by
  unfold gV
  refine x_iconst (pc := 0) (n := 0) (show decode mX2_sortByRow.2.1 0 = .ok (.iconst 0, 1) by decide +kernel) ?_
  refine x_istore_n (pc := 1) (ls' := [some (.inr (.inr 26)), some (.inr (.inr 1)), some (.inl 0), none]) (show decode mX2_sortByRow.2.1 1 = .ok (.istore_n 2, 1) by decide +kernel) rfl (by decide) rfl ?_
  exact hR
set_option maxRecDepth 4000 in
theorem sg_X2_sortByRow_2 {d : Nat} {x2 : Int} {h : xH} {Q : xH → Prop}
    (hR : (inI x2 ∧ inI (h 1 2)) ∧ ((h 1 2) ≤ x2 → Q h) ∧ (x2 < (h 1 2) → gV wdC d mX2_sortByRow 12 [some (.inr (.inr 26)), some (.inr (.inr 1)), some (.inl x2), some (.inl x2)] h Q)) :
    gV wdC d mX2_sortByRow 2 [some (.inr (.inr 26)), some (.inr (.inr 1)), some (.inl x2), none] h Q := by
  unfold gV
  refine x_iload_n (pc := 2) (show decode mX2_sortByRow.2.1 2 = .ok (.iload_n 2, 1) by decide +kernel) rfl rfl ?_
  refine x_aload_n (pc := 3) (show decode mX2_sortByRow.2.1 3 = .ok (.aload_n 1, 1) by decide +kernel) rfl rfl ?_
  refine x_getI (pc := 4) (ki := 2) f2_38 rfl rfl (by decide) rfl (show decode mX2_sortByRow.2.1 4 = .ok (.getfield 38, 3) by decide +kernel) ?_
  obtain ⟨hg, hR⟩ := hR
  refine x_icmp_ge (pc := 7) (tgt := 71) (show decode mX2_sortByRow.2.1 7 = .ok (.if_icmp .ge 64, 3) by decide +kernel) (by decide) ⟨hg.1, hg.2⟩ (fun hc => ?_) (fun hc => ?_)
  · replace hR := hR.1 hc
    exact x_vret (pc := 71) rfl (show decode mX2_sortByRow.2.1 71 = .ok (.return_, 1) by decide +kernel) ⟨rfl, hR⟩
  · replace hR := hR.2 hc
    refine x_iload_n (pc := 10) (show decode mX2_sortByRow.2.1 10 = .ok (.iload_n 2, 1) by decide +kernel) rfl rfl ?_
    refine x_istore_n (pc := 11) (ls' := [some (.inr (.inr 26)), some (.inr (.inr 1)), some (.inl x2), some (.inl x2)]) (show decode mX2_sortByRow.2.1 11 = .ok (.istore_n 3, 1) by decide +kernel) rfl (by decide) rfl ?_
    exact hR
set_option maxRecDepth 4000 in
theorem sg_X2_sortByRow_12 {d : Nat} {x2 x3 : Int} {h : xH} {Q : xH → Prop}
    (hR : (inI x3) ∧ (x3 ≤ 0 → (0 ≤ x3 ∧ x3 < 30) ∧ gV wdC d mX2_sortByRow 2 [some (.inr (.inr 26)), some (.inr (.inr 1)), some (.inl (x2 + 1)), none] (xu h 30 x3 x2) Q) ∧ (0 < x3 → (0 ≤ (x3 - 1) ∧ (x3 - 1) < 30) ∧ (0 ≤ (h 30 (x3 - 1)) ∧ (h 30 (x3 - 1)) < 30) ∧ (0 ≤ x2 ∧ x2 < 30) ∧ (inI (h 2 (h 30 (x3 - 1))) ∧ inI (h 2 x2)) ∧ ((h 2 (h 30 (x3 - 1))) ≤ (h 2 x2) → (0 ≤ x3 ∧ x3 < 30) ∧ gV wdC d mX2_sortByRow 2 [some (.inr (.inr 26)), some (.inr (.inr 1)), some (.inl (x2 + 1)), none] (xu h 30 x3 x2) Q) ∧ ((h 2 x2) < (h 2 (h 30 (x3 - 1))) → (0 ≤ (x3 - 1) ∧ (x3 - 1) < 30) ∧ (0 ≤ x3 ∧ x3 < 30) ∧ gV wdC d mX2_sortByRow 12 [some (.inr (.inr 26)), some (.inr (.inr 1)), some (.inl x2), some (.inl (x3 + (-1)))] (xu h 30 x3 (h 30 (x3 - 1))) Q))) :
    gV wdC d mX2_sortByRow 12 [some (.inr (.inr 26)), some (.inr (.inr 1)), some (.inl x2), some (.inl x3)] h Q := by
  unfold gV
  refine x_iload_n (pc := 12) (show decode mX2_sortByRow.2.1 12 = .ok (.iload_n 3, 1) by decide +kernel) rfl rfl ?_
  obtain ⟨hg, hR⟩ := hR
  refine x_if_le (pc := 13) (tgt := 58) (show decode mX2_sortByRow.2.1 13 = .ok (.ifCond .le 45, 3) by decide +kernel) (by decide) hg (fun hc => ?_) (fun hc => ?_)
  · replace hR := hR.1 hc
    refine x_aload_n (pc := 58) (show decode mX2_sortByRow.2.1 58 = .ok (.aload_n 0, 1) by decide +kernel) rfl rfl ?_
    refine x_getR (pc := 59) f2_22 rfl rfl (show decode mX2_sortByRow.2.1 59 = .ok (.getfield 22, 3) by decide +kernel) ?_
    refine x_iload_n (pc := 62) (show decode mX2_sortByRow.2.1 62 = .ok (.iload_n 3, 1) by decide +kernel) rfl rfl ?_
    refine x_iload_n (pc := 63) (show decode mX2_sortByRow.2.1 63 = .ok (.iload_n 2, 1) by decide +kernel) rfl rfl ?_
    obtain ⟨hg, hR⟩ := hR
    refine x_iast (pc := 64) rfl (by decide) hg (show decode mX2_sortByRow.2.1 64 = .ok (.iastore, 1) by decide +kernel) ?_
    refine x_iinc (pc := 65) (ls' := [some (.inr (.inr 26)), some (.inr (.inr 1)), some (.inl (x2 + 1)), some (.inl x3)]) (show decode mX2_sortByRow.2.1 65 = .ok (.iinc 2 1, 3) by decide +kernel) (by decide) rfl rfl ?_
    refine x_goto (pc := 68) (tgt := 2) (show decode mX2_sortByRow.2.1 68 = .ok (.goto (-66), 3) by decide +kernel) (by decide) ?_
    exact x_weak (xle_get (by repeat' constructor)) hR
  · replace hR := hR.2 hc
    refine x_aload_n (pc := 16) (show decode mX2_sortByRow.2.1 16 = .ok (.aload_n 1, 1) by decide +kernel) rfl rfl ?_
    refine x_getR (pc := 17) f2_51 rfl rfl (show decode mX2_sortByRow.2.1 17 = .ok (.getfield 51, 3) by decide +kernel) ?_
    refine x_aload_n (pc := 20) (show decode mX2_sortByRow.2.1 20 = .ok (.aload_n 0, 1) by decide +kernel) rfl rfl ?_
    refine x_getR (pc := 21) f2_22 rfl rfl (show decode mX2_sortByRow.2.1 21 = .ok (.getfield 22, 3) by decide +kernel) ?_
    refine x_iload_n (pc := 24) (show decode mX2_sortByRow.2.1 24 = .ok (.iload_n 3, 1) by decide +kernel) rfl rfl ?_
    refine x_iconst (pc := 25) (n := 1) (show decode mX2_sortByRow.2.1 25 = .ok (.iconst 1, 1) by decide +kernel) ?_
    refine x_isub (pc := 26) (show decode mX2_sortByRow.2.1 26 = .ok (.isub, 1) by decide +kernel) ?_
    obtain ⟨hg, hR⟩ := hR
    refine x_iald (pc := 27) rfl (by decide) hg (show decode mX2_sortByRow.2.1 27 = .ok (.iaload, 1) by decide +kernel) ?_
    obtain ⟨hg, hR⟩ := hR
    refine x_iald (pc := 28) rfl (by decide) hg (show decode mX2_sortByRow.2.1 28 = .ok (.iaload, 1) by decide +kernel) ?_
    refine x_aload_n (pc := 29) (show decode mX2_sortByRow.2.1 29 = .ok (.aload_n 1, 1) by decide +kernel) rfl rfl ?_
    refine x_getR (pc := 30) f2_51 rfl rfl (show decode mX2_sortByRow.2.1 30 = .ok (.getfield 51, 3) by decide +kernel) ?_
    refine x_iload_n (pc := 33) (show decode mX2_sortByRow.2.1 33 = .ok (.iload_n 2, 1) by decide +kernel) rfl rfl ?_
    obtain ⟨hg, hR⟩ := hR
    refine x_iald (pc := 34) rfl (by decide) hg (show decode mX2_sortByRow.2.1 34 = .ok (.iaload, 1) by decide +kernel) ?_
    obtain ⟨hg, hR⟩ := hR
    refine x_icmp_le (pc := 35) (tgt := 58) (show decode mX2_sortByRow.2.1 35 = .ok (.if_icmp .le 23, 3) by decide +kernel) (by decide) ⟨hg.1, hg.2⟩ (fun hc => ?_) (fun hc => ?_)
    · replace hR := hR.1 hc
      refine x_aload_n (pc := 58) (show decode mX2_sortByRow.2.1 58 = .ok (.aload_n 0, 1) by decide +kernel) rfl rfl ?_
      refine x_getR (pc := 59) f2_22 rfl rfl (show decode mX2_sortByRow.2.1 59 = .ok (.getfield 22, 3) by decide +kernel) ?_
      refine x_iload_n (pc := 62) (show decode mX2_sortByRow.2.1 62 = .ok (.iload_n 3, 1) by decide +kernel) rfl rfl ?_
      refine x_iload_n (pc := 63) (show decode mX2_sortByRow.2.1 63 = .ok (.iload_n 2, 1) by decide +kernel) rfl rfl ?_
      obtain ⟨hg, hR⟩ := hR
      refine x_iast (pc := 64) rfl (by decide) hg (show decode mX2_sortByRow.2.1 64 = .ok (.iastore, 1) by decide +kernel) ?_
      refine x_iinc (pc := 65) (ls' := [some (.inr (.inr 26)), some (.inr (.inr 1)), some (.inl (x2 + 1)), some (.inl x3)]) (show decode mX2_sortByRow.2.1 65 = .ok (.iinc 2 1, 3) by decide +kernel) (by decide) rfl rfl ?_
      refine x_goto (pc := 68) (tgt := 2) (show decode mX2_sortByRow.2.1 68 = .ok (.goto (-66), 3) by decide +kernel) (by decide) ?_
      exact x_weak (xle_get (by repeat' constructor)) hR
    · replace hR := hR.2 hc
      refine x_aload_n (pc := 38) (show decode mX2_sortByRow.2.1 38 = .ok (.aload_n 0, 1) by decide +kernel) rfl rfl ?_
      refine x_getR (pc := 39) f2_22 rfl rfl (show decode mX2_sortByRow.2.1 39 = .ok (.getfield 22, 3) by decide +kernel) ?_
      refine x_iload_n (pc := 42) (show decode mX2_sortByRow.2.1 42 = .ok (.iload_n 3, 1) by decide +kernel) rfl rfl ?_
      refine x_aload_n (pc := 43) (show decode mX2_sortByRow.2.1 43 = .ok (.aload_n 0, 1) by decide +kernel) rfl rfl ?_
      refine x_getR (pc := 44) f2_22 rfl rfl (show decode mX2_sortByRow.2.1 44 = .ok (.getfield 22, 3) by decide +kernel) ?_
      refine x_iload_n (pc := 47) (show decode mX2_sortByRow.2.1 47 = .ok (.iload_n 3, 1) by decide +kernel) rfl rfl ?_
      refine x_iconst (pc := 48) (n := 1) (show decode mX2_sortByRow.2.1 48 = .ok (.iconst 1, 1) by decide +kernel) ?_
      refine x_isub (pc := 49) (show decode mX2_sortByRow.2.1 49 = .ok (.isub, 1) by decide +kernel) ?_
      obtain ⟨hg, hR⟩ := hR
      refine x_iald (pc := 50) rfl (by decide) hg (show decode mX2_sortByRow.2.1 50 = .ok (.iaload, 1) by decide +kernel) ?_
      obtain ⟨hg, hR⟩ := hR
      refine x_iast (pc := 51) rfl (by decide) hg (show decode mX2_sortByRow.2.1 51 = .ok (.iastore, 1) by decide +kernel) ?_
      refine x_iinc (pc := 52) (ls' := [some (.inr (.inr 26)), some (.inr (.inr 1)), some (.inl x2), some (.inl (x3 + (-1)))]) (show decode mX2_sortByRow.2.1 52 = .ok (.iinc 3 (-1), 3) by decide +kernel) (by decide) rfl rfl ?_
      refine x_goto (pc := 55) (tgt := 12) (show decode mX2_sortByRow.2.1 55 = .ok (.goto (-43), 3) by decide +kernel) (by decide) ?_
      exact hR
set_option maxRecDepth 4000 in
theorem sg_X2_take_0 {d : Nat} {x1 x2 : Int} {h : xH} {Q : xH → Prop} (hd : 1 ≤ d)
    (hR : (inI x2) ∧ (0 ≤ x2 → (0 ≤ x1 ∧ x1 < 30) ∧ cL wdC (d - 1) mX7_pinBit [.inl x2] h (fun r2 h1 => (0 ≤ x1 ∧ x1 < 30) ∧ (0 ≤ x1 ∧ x1 < 30) ∧ cL wdC (d - 1) mX7_pinBit [.inl x2] (xu h1 27 x1 (xorL (h 27 x1) r2)) (fun r4 h3 => (0 ≤ x2 ∧ x2 < 30) ∧ (0 ≤ x1 ∧ x1 < 30) ∧ (0 ≤ x1 ∧ x1 < 30) ∧ (0 ≤ x2 ∧ x2 < 30) ∧ (inI (h3 29 x1) ∧ inI ((h3 29 x2) + 1)) ∧ (0 ≤ x1 ∧ x1 < 30) ∧ Q (xu (xu h3 28 x1 (xorL (h1 28 x1) (xorL r4 (h3 28 x2)))) 29 x1 (max (h3 29 x1) ((h3 29 x2) + 1)))))) ∧ (x2 < 0 → Q h)) :
    gV wdC d mX2_take 0 [some (.inr (.inr 26)), some (.inl x1), some (.inl x2)] h Q := by
  unfold gV
  refine x_iload_n (pc := 0) (show decode mX2_take.2.1 0 = .ok (.iload_n 2, 1) by decide +kernel) rfl rfl ?_
  obtain ⟨hg, hR⟩ := hR
  refine x_if_ge (pc := 1) (tgt := 5) (show decode mX2_take.2.1 1 = .ok (.ifCond .ge 4, 3) by decide +kernel) (by decide) hg (fun hc => ?_) (fun hc => ?_)
  · replace hR := hR.1 hc
    refine x_aload_n (pc := 5) (show decode mX2_take.2.1 5 = .ok (.aload_n 0, 1) by decide +kernel) rfl rfl ?_
    refine x_getR (pc := 6) f2_9 rfl rfl (show decode mX2_take.2.1 6 = .ok (.getfield 9, 3) by decide +kernel) ?_
    refine x_iload_n (pc := 9) (show decode mX2_take.2.1 9 = .ok (.iload_n 1, 1) by decide +kernel) rfl rfl ?_
    refine x_dup2 (pc := 10) (show decode mX2_take.2.1 10 = .ok (.dup2, 1) by decide +kernel) rfl rfl ?_
    obtain ⟨hg, hR⟩ := hR
    refine x_lald (pc := 11) rfl (by decide) hg (show decode mX2_take.2.1 11 = .ok (.laload, 1) by decide +kernel) ?_
    refine x_iload_n (pc := 12) (show decode mX2_take.2.1 12 = .ok (.iload_n 2, 1) by decide +kernel) rfl rfl ?_
    refine x_callSN (pc := 13) (As := [.inl x2]) (rest := [.inr (.inl (h 27 x1)), .inl x1, .inr (.inr 27)]) (lk2_54 rfl) sm_X7_pinBit (Nat.le_of_ble_eq_true rfl) (Nat.le_of_ble_eq_true rfl) (show decode mX2_take.2.1 13 = .ok (.invokestatic 54, 3) by decide +kernel) hd hR (fun r9 h1 hq => ?_)
    obtain ⟨r2, rfl, hR⟩ := hq
    show xG _ _ _ 16 _ [.inr (.inl r2), .inr (.inl (h 27 x1)), .inl x1, .inr (.inr 27)] _ _
    refine x_lor (pc := 16) (show decode mX2_take.2.1 16 = .ok (.lor, 1) by decide +kernel) ?_
    obtain ⟨hg, hR⟩ := hR
    refine x_last (pc := 17) rfl (by decide) hg (show decode mX2_take.2.1 17 = .ok (.lastore, 1) by decide +kernel) ?_
    refine x_aload_n (pc := 18) (show decode mX2_take.2.1 18 = .ok (.aload_n 0, 1) by decide +kernel) rfl rfl ?_
    refine x_getR (pc := 19) f2_15 rfl rfl (show decode mX2_take.2.1 19 = .ok (.getfield 15, 3) by decide +kernel) ?_
    refine x_iload_n (pc := 22) (show decode mX2_take.2.1 22 = .ok (.iload_n 1, 1) by decide +kernel) rfl rfl ?_
    refine x_dup2 (pc := 23) (show decode mX2_take.2.1 23 = .ok (.dup2, 1) by decide +kernel) rfl rfl ?_
    obtain ⟨hg, hR⟩ := hR
    refine x_lald (pc := 24) rfl (by decide) hg (show decode mX2_take.2.1 24 = .ok (.laload, 1) by decide +kernel) ?_
    refine x_iload_n (pc := 25) (show decode mX2_take.2.1 25 = .ok (.iload_n 2, 1) by decide +kernel) rfl rfl ?_
    refine x_callSN (pc := 26) (As := [.inl x2]) (rest := [.inr (.inl (h1 28 x1)), .inl x1, .inr (.inr 28)]) (lk2_54 rfl) sm_X7_pinBit (Nat.le_of_ble_eq_true rfl) (Nat.le_of_ble_eq_true rfl) (show decode mX2_take.2.1 26 = .ok (.invokestatic 54, 3) by decide +kernel) hd hR (fun r9 h3 hq => ?_)
    obtain ⟨r4, rfl, hR⟩ := hq
    show xG _ _ _ 29 _ [.inr (.inl r4), .inr (.inl (h1 28 x1)), .inl x1, .inr (.inr 28)] _ _
    refine x_aload_n (pc := 29) (show decode mX2_take.2.1 29 = .ok (.aload_n 0, 1) by decide +kernel) rfl rfl ?_
    refine x_getR (pc := 30) f2_15 rfl rfl (show decode mX2_take.2.1 30 = .ok (.getfield 15, 3) by decide +kernel) ?_
    refine x_iload_n (pc := 33) (show decode mX2_take.2.1 33 = .ok (.iload_n 2, 1) by decide +kernel) rfl rfl ?_
    obtain ⟨hg, hR⟩ := hR
    refine x_lald (pc := 34) rfl (by decide) hg (show decode mX2_take.2.1 34 = .ok (.laload, 1) by decide +kernel) ?_
    refine x_lor (pc := 35) (show decode mX2_take.2.1 35 = .ok (.lor, 1) by decide +kernel) ?_
    refine x_lor (pc := 36) (show decode mX2_take.2.1 36 = .ok (.lor, 1) by decide +kernel) ?_
    obtain ⟨hg, hR⟩ := hR
    refine x_last (pc := 37) rfl (by decide) hg (show decode mX2_take.2.1 37 = .ok (.lastore, 1) by decide +kernel) ?_
    refine x_aload_n (pc := 38) (show decode mX2_take.2.1 38 = .ok (.aload_n 0, 1) by decide +kernel) rfl rfl ?_
    refine x_getR (pc := 39) f2_18 rfl rfl (show decode mX2_take.2.1 39 = .ok (.getfield 18, 3) by decide +kernel) ?_
    refine x_iload_n (pc := 42) (show decode mX2_take.2.1 42 = .ok (.iload_n 1, 1) by decide +kernel) rfl rfl ?_
    refine x_aload_n (pc := 43) (show decode mX2_take.2.1 43 = .ok (.aload_n 0, 1) by decide +kernel) rfl rfl ?_
    refine x_getR (pc := 44) f2_18 rfl rfl (show decode mX2_take.2.1 44 = .ok (.getfield 18, 3) by decide +kernel) ?_
    refine x_iload_n (pc := 47) (show decode mX2_take.2.1 47 = .ok (.iload_n 1, 1) by decide +kernel) rfl rfl ?_
    obtain ⟨hg, hR⟩ := hR
    refine x_iald (pc := 48) rfl (by decide) hg (show decode mX2_take.2.1 48 = .ok (.iaload, 1) by decide +kernel) ?_
    refine x_aload_n (pc := 49) (show decode mX2_take.2.1 49 = .ok (.aload_n 0, 1) by decide +kernel) rfl rfl ?_
    refine x_getR (pc := 50) f2_18 rfl rfl (show decode mX2_take.2.1 50 = .ok (.getfield 18, 3) by decide +kernel) ?_
    refine x_iload_n (pc := 53) (show decode mX2_take.2.1 53 = .ok (.iload_n 2, 1) by decide +kernel) rfl rfl ?_
    obtain ⟨hg, hR⟩ := hR
    refine x_iald (pc := 54) rfl (by decide) hg (show decode mX2_take.2.1 54 = .ok (.iaload, 1) by decide +kernel) ?_
    refine x_iconst (pc := 55) (n := 1) (show decode mX2_take.2.1 55 = .ok (.iconst 1, 1) by decide +kernel) ?_
    refine x_iadd (pc := 56) (show decode mX2_take.2.1 56 = .ok (.iadd, 1) by decide +kernel) ?_
    obtain ⟨hg, hR⟩ := hR
    refine x_mmax (pc := 57) (tblG_m2 142 rfl rfl) MX_st M_in MX_cd ⟨hg.1, hg.2⟩ (Nat.le_of_ble_eq_true rfl) hd (show decode mX2_take.2.1 57 = .ok (.invokestatic 58, 3) by decide +kernel) ?_
    obtain ⟨hg, hR⟩ := hR
    refine x_iast (pc := 60) rfl (by decide) hg (show decode mX2_take.2.1 60 = .ok (.iastore, 1) by decide +kernel) ?_
    exact x_vret (pc := 61) rfl (show decode mX2_take.2.1 61 = .ok (.return_, 1) by decide +kernel) ⟨rfl, hR⟩
  · replace hR := hR.2 hc
    exact x_vret (pc := 4) rfl (show decode mX2_take.2.1 4 = .ok (.return_, 1) by decide +kernel) ⟨rfl, hR⟩
set_option maxRecDepth 4000 in
theorem sg_X2_neededBy_0 {d : Nat} {x1 x2 : Int} {h : xH} {Q : Int → xH → Prop}
    (hR : gL wdC d mX2_neededBy 5 [some (.inr (.inr 26)), some (.inl x1), some (.inl x2), some (.inr (.inl 0)), none, some (.inl 0)] h Q) :
    gL wdC d mX2_neededBy 0 [some (.inr (.inr 26)), some (.inl x1), some (.inl x2), none, none, none] h Q := by
  unfold gL
  refine x_lconst (pc := 0) (v := 0) (show decode mX2_neededBy.2.1 0 = .ok (.lconst 0, 1) by decide +kernel) rfl ?_
  refine x_lstore_n (pc := 1) (ls' := [some (.inr (.inr 26)), some (.inl x1), some (.inl x2), some (.inr (.inl 0)), none, none]) (show decode mX2_neededBy.2.1 1 = .ok (.lstore_n 3, 1) by decide +kernel) rfl (by decide) rfl ?_
  refine x_iconst (pc := 2) (n := 0) (show decode mX2_neededBy.2.1 2 = .ok (.iconst 0, 1) by decide +kernel) ?_
  refine x_istore (pc := 3) (ls' := [some (.inr (.inr 26)), some (.inl x1), some (.inl x2), some (.inr (.inl 0)), none, some (.inl 0)]) (show decode mX2_neededBy.2.1 3 = .ok (.istore 5, 2) by decide +kernel) (by decide) rfl ?_
  exact hR
set_option maxRecDepth 4000 in
theorem sg_X2_neededBy_5 {d : Nat} {x1 x2 x3 x5 : Int} {h : xH} {Q : Int → xH → Prop} (hd : 1 ≤ d)
    (hR : (inI x5 ∧ inI x2) ∧ (x2 ≤ x5 → Q x3 h) ∧ (x5 < x2 → (0 ≤ x5 ∧ x5 < 30) ∧ cB wdC (d - 1) mX7_hasPin [.inr (.inl (h 28 x5)), .inl x1] h (fun h1 => cL wdC (d - 1) mX7_pinBit [.inl x5] h1 (fun r3 h2 => gL wdC d mX2_neededBy 5 [some (.inr (.inr 26)), some (.inl x1), some (.inl x2), some (.inr (.inl (xorL x3 r3))), none, some (.inl (x5 + 1))] h2 Q)) (fun h1 => gL wdC d mX2_neededBy 5 [some (.inr (.inr 26)), some (.inl x1), some (.inl x2), some (.inr (.inl x3)), none, some (.inl (x5 + 1))] h1 Q))) :
    gL wdC d mX2_neededBy 5 [some (.inr (.inr 26)), some (.inl x1), some (.inl x2), some (.inr (.inl x3)), none, some (.inl x5)] h Q := by
  unfold gL
  refine x_iload (pc := 5) (show decode mX2_neededBy.2.1 5 = .ok (.iload 5, 2) by decide +kernel) rfl ?_
  refine x_iload_n (pc := 7) (show decode mX2_neededBy.2.1 7 = .ok (.iload_n 2, 1) by decide +kernel) rfl rfl ?_
  obtain ⟨hg, hR⟩ := hR
  refine x_icmp_ge (pc := 8) (tgt := 39) (show decode mX2_neededBy.2.1 8 = .ok (.if_icmp .ge 31, 3) by decide +kernel) (by decide) ⟨hg.1, hg.2⟩ (fun hc => ?_) (fun hc => ?_)
  · replace hR := hR.1 hc
    refine x_lload_n (pc := 39) (show decode mX2_neededBy.2.1 39 = .ok (.lload_n 3, 1) by decide +kernel) rfl rfl ?_
    exact x_lret (pc := 40) rfl (show decode mX2_neededBy.2.1 40 = .ok (.lreturn, 1) by decide +kernel) ⟨_, rfl, hR⟩
  · replace hR := hR.2 hc
    refine x_aload_n (pc := 11) (show decode mX2_neededBy.2.1 11 = .ok (.aload_n 0, 1) by decide +kernel) rfl rfl ?_
    refine x_getR (pc := 12) f2_15 rfl rfl (show decode mX2_neededBy.2.1 12 = .ok (.getfield 15, 3) by decide +kernel) ?_
    refine x_iload (pc := 15) (show decode mX2_neededBy.2.1 15 = .ok (.iload 5, 2) by decide +kernel) rfl ?_
    obtain ⟨hg, hR⟩ := hR
    refine x_lald (pc := 17) rfl (by decide) hg (show decode mX2_neededBy.2.1 17 = .ok (.laload, 1) by decide +kernel) ?_
    refine x_iload_n (pc := 18) (show decode mX2_neededBy.2.1 18 = .ok (.iload_n 1, 1) by decide +kernel) rfl rfl ?_
    refine x_callSN (pc := 19) (As := [.inr (.inl (h 28 x5)), .inl x1]) (rest := []) (lk2_64 rfl) sm_X7_hasPin (Nat.le_of_ble_eq_true rfl) (Nat.le_of_ble_eq_true rfl) (show decode mX2_neededBy.2.1 19 = .ok (.invokestatic 64, 3) by decide +kernel) hd hR (fun r9 h1 hq => ?_)
    obtain ⟨r8, rfl, hq⟩ := hq
    rcases hq with ⟨rfl, hR⟩ | ⟨rfl, hR⟩
    · show xG _ _ _ 22 _ [.inl 1] _ _
      refine x_if_eq (pc := 22) (tgt := 33) (show decode mX2_neededBy.2.1 22 = .ok (.ifCond .eq 11, 3) by decide +kernel) (by decide) (by unfold inI; decide) (fun hc => absurd hc (by decide)) (fun _ => ?_)
      refine x_lload_n (pc := 25) (show decode mX2_neededBy.2.1 25 = .ok (.lload_n 3, 1) by decide +kernel) rfl rfl ?_
      refine x_iload (pc := 26) (show decode mX2_neededBy.2.1 26 = .ok (.iload 5, 2) by decide +kernel) rfl ?_
      refine x_callSN (pc := 28) (As := [.inl x5]) (rest := [.inr (.inl x3)]) (lk2_54 rfl) sm_X7_pinBit (Nat.le_of_ble_eq_true rfl) (Nat.le_of_ble_eq_true rfl) (show decode mX2_neededBy.2.1 28 = .ok (.invokestatic 54, 3) by decide +kernel) hd hR (fun r9 h2 hq => ?_)
      obtain ⟨r3, rfl, hR⟩ := hq
      show xG _ _ _ 31 _ [.inr (.inl r3), .inr (.inl x3)] _ _
      refine x_lor (pc := 31) (show decode mX2_neededBy.2.1 31 = .ok (.lor, 1) by decide +kernel) ?_
      refine x_lstore_n (pc := 32) (ls' := [some (.inr (.inr 26)), some (.inl x1), some (.inl x2), some (.inr (.inl (xorL x3 r3))), none, some (.inl x5)]) (show decode mX2_neededBy.2.1 32 = .ok (.lstore_n 3, 1) by decide +kernel) rfl (by decide) rfl ?_
      refine x_iinc (pc := 33) (ls' := [some (.inr (.inr 26)), some (.inl x1), some (.inl x2), some (.inr (.inl (xorL x3 r3))), none, some (.inl (x5 + 1))]) (show decode mX2_neededBy.2.1 33 = .ok (.iinc 5 1, 3) by decide +kernel) (by decide) rfl rfl ?_
      refine x_goto (pc := 36) (tgt := 5) (show decode mX2_neededBy.2.1 36 = .ok (.goto (-31), 3) by decide +kernel) (by decide) ?_
      exact hR
    · show xG _ _ _ 22 _ [.inl 0] _ _
      refine x_if_eq (pc := 22) (tgt := 33) (show decode mX2_neededBy.2.1 22 = .ok (.ifCond .eq 11, 3) by decide +kernel) (by decide) (by unfold inI; decide) (fun _ => ?_) (fun hc => absurd hc (by decide))
      refine x_iinc (pc := 33) (ls' := [some (.inr (.inr 26)), some (.inl x1), some (.inl x2), some (.inr (.inl x3)), none, some (.inl (x5 + 1))]) (show decode mX2_neededBy.2.1 33 = .ok (.iinc 5 1, 3) by decide +kernel) (by decide) rfl rfl ?_
      refine x_goto (pc := 36) (tgt := 5) (show decode mX2_neededBy.2.1 36 = .ok (.goto (-31), 3) by decide +kernel) (by decide) ?_
      exact hR
set_option maxRecDepth 4000 in
theorem sg_X3_begin_0 {d : Nat} {x1 : Int} {h : xH} {Q : xH → Prop}
    (hR : (0 ≤ x1 ∧ x1 ≤ 31) ∧ Q (xu (xu (xu (xu h 1 0 x1) 1 1 ((1 * 2 ^ (Int.toNat x1)) - 1)) 1 2 0) 1 6 0)) :
    gV wdC d mX3_begin 0 [some (.inr (.inr 1)), some (.inl x1)] h Q := by
  unfold gV
  refine x_aload_n (pc := 0) (show decode mX3_begin.2.1 0 = .ok (.aload_n 0, 1) by decide +kernel) rfl rfl ?_
  refine x_iload_n (pc := 1) (show decode mX3_begin.2.1 1 = .ok (.iload_n 1, 1) by decide +kernel) rfl rfl ?_
  refine x_putI (pc := 2) (ki := 0) f3_9 fp3_0 rfl rfl rfl (show decode mX3_begin.2.1 2 = .ok (.putfield 9, 3) by decide +kernel) ?_
  refine x_aload_n (pc := 5) (show decode mX3_begin.2.1 5 = .ok (.aload_n 0, 1) by decide +kernel) rfl rfl ?_
  refine x_iconst (pc := 6) (n := 1) (show decode mX3_begin.2.1 6 = .ok (.iconst 1, 1) by decide +kernel) ?_
  refine x_iload_n (pc := 7) (show decode mX3_begin.2.1 7 = .ok (.iload_n 1, 1) by decide +kernel) rfl rfl ?_
  obtain ⟨hg, hR⟩ := hR
  refine x_ishl (pc := 8) (show decode mX3_begin.2.1 8 = .ok (.ishl, 1) by decide +kernel) hg ?_
  refine x_iconst (pc := 9) (n := 1) (show decode mX3_begin.2.1 9 = .ok (.iconst 1, 1) by decide +kernel) ?_
  refine x_isub (pc := 10) (show decode mX3_begin.2.1 10 = .ok (.isub, 1) by decide +kernel) ?_
  refine x_putI (pc := 11) (ki := 1) f3_15 fp3_1 rfl rfl rfl (show decode mX3_begin.2.1 11 = .ok (.putfield 15, 3) by decide +kernel) ?_
  refine x_aload_n (pc := 14) (show decode mX3_begin.2.1 14 = .ok (.aload_n 0, 1) by decide +kernel) rfl rfl ?_
  refine x_iconst (pc := 15) (n := 0) (show decode mX3_begin.2.1 15 = .ok (.iconst 0, 1) by decide +kernel) ?_
  refine x_putI (pc := 16) (ki := 2) f3_18 fp3_2 rfl rfl rfl (show decode mX3_begin.2.1 16 = .ok (.putfield 18, 3) by decide +kernel) ?_
  refine x_aload_n (pc := 19) (show decode mX3_begin.2.1 19 = .ok (.aload_n 0, 1) by decide +kernel) rfl rfl ?_
  refine x_iconst (pc := 20) (n := 0) (show decode mX3_begin.2.1 20 = .ok (.iconst 0, 1) by decide +kernel) ?_
  refine x_putI (pc := 21) (ki := 6) f3_31 fp3_6 rfl rfl rfl (show decode mX3_begin.2.1 21 = .ok (.putfield 31, 3) by decide +kernel) ?_
  exact x_vret (pc := 24) rfl (show decode mX3_begin.2.1 24 = .ok (.return_, 1) by decide +kernel) ⟨rfl, hR⟩
set_option maxRecDepth 4000 in
theorem sg_X3_copyFrom_21_1_0 {d : Nat} {h : xH} {Q : xH → Prop} (hd : 1 ≤ d)
    (hR : Q (xcp (xu (xcp (xcp (xcp (xu (xu (xu h 21 0 (h 1 0)) 21 1 (h 1 1)) 21 2 (h 1 2)) 2 22 30) 3 23 30) 4 24 30) 21 6 (h 1 6)) 5 25 10)) :
    gV wdC d mX3_copyFrom 0 [some (.inr (.inr 21)), some (.inr (.inr 1))] h Q := by
  unfold gV
  refine x_aload_n (pc := 0) (show decode mX3_copyFrom.2.1 0 = .ok (.aload_n 0, 1) by decide +kernel) rfl rfl ?_
  refine x_aload_n (pc := 1) (show decode mX3_copyFrom.2.1 1 = .ok (.aload_n 1, 1) by decide +kernel) rfl rfl ?_
  refine x_getI (pc := 2) (ki := 0) f3_9 rfl rfl (by decide) rfl (show decode mX3_copyFrom.2.1 2 = .ok (.getfield 9, 3) by decide +kernel) ?_
  refine x_putI (pc := 5) (ki := 0) f3_9 fp3_0 rfl rfl rfl (show decode mX3_copyFrom.2.1 5 = .ok (.putfield 9, 3) by decide +kernel) ?_
  refine x_aload_n (pc := 8) (show decode mX3_copyFrom.2.1 8 = .ok (.aload_n 0, 1) by decide +kernel) rfl rfl ?_
  refine x_aload_n (pc := 9) (show decode mX3_copyFrom.2.1 9 = .ok (.aload_n 1, 1) by decide +kernel) rfl rfl ?_
  refine x_getI (pc := 10) (ki := 1) f3_15 rfl rfl (by decide) rfl (show decode mX3_copyFrom.2.1 10 = .ok (.getfield 15, 3) by decide +kernel) ?_
  refine x_putI (pc := 13) (ki := 1) f3_15 fp3_1 rfl rfl rfl (show decode mX3_copyFrom.2.1 13 = .ok (.putfield 15, 3) by decide +kernel) ?_
  refine x_aload_n (pc := 16) (show decode mX3_copyFrom.2.1 16 = .ok (.aload_n 0, 1) by decide +kernel) rfl rfl ?_
  refine x_aload_n (pc := 17) (show decode mX3_copyFrom.2.1 17 = .ok (.aload_n 1, 1) by decide +kernel) rfl rfl ?_
  refine x_getI (pc := 18) (ki := 2) f3_18 rfl rfl (by decide) rfl (show decode mX3_copyFrom.2.1 18 = .ok (.getfield 18, 3) by decide +kernel) ?_
  refine x_putI (pc := 21) (ki := 2) f3_18 fp3_2 rfl rfl rfl (show decode mX3_copyFrom.2.1 21 = .ok (.putfield 18, 3) by decide +kernel) ?_
  refine x_aload_n (pc := 24) (show decode mX3_copyFrom.2.1 24 = .ok (.aload_n 1, 1) by decide +kernel) rfl rfl ?_
  refine x_getR (pc := 25) f3_21 rfl rfl (show decode mX3_copyFrom.2.1 25 = .ok (.getfield 21, 3) by decide +kernel) ?_
  refine x_iconst (pc := 28) (n := 0) (show decode mX3_copyFrom.2.1 28 = .ok (.iconst 0, 1) by decide +kernel) ?_
  refine x_aload_n (pc := 29) (show decode mX3_copyFrom.2.1 29 = .ok (.aload_n 0, 1) by decide +kernel) rfl rfl ?_
  refine x_getR (pc := 30) f3_21 rfl rfl (show decode mX3_copyFrom.2.1 30 = .ok (.getfield 21, 3) by decide +kernel) ?_
  refine x_iconst (pc := 33) (n := 0) (show decode mX3_copyFrom.2.1 33 = .ok (.iconst 0, 1) by decide +kernel) ?_
  refine x_bipush (pc := 34) (n := 30) (show decode mX3_copyFrom.2.1 34 = .ok (.bipush 30, 2) by decide +kernel) rfl ?_
  refine x_copy (pc := 36) rfl rfl (tblG_m4 166 rfl rfl) ac_native ac_static ac_init (by decide) (Nat.le_of_ble_eq_true rfl) hd (show decode mX3_copyFrom.2.1 36 = .ok (.invokestatic 37, 3) by decide +kernel) ?_
  refine x_aload_n (pc := 39) (show decode mX3_copyFrom.2.1 39 = .ok (.aload_n 1, 1) by decide +kernel) rfl rfl ?_
  refine x_getR (pc := 40) f3_25 rfl rfl (show decode mX3_copyFrom.2.1 40 = .ok (.getfield 25, 3) by decide +kernel) ?_
  refine x_iconst (pc := 43) (n := 0) (show decode mX3_copyFrom.2.1 43 = .ok (.iconst 0, 1) by decide +kernel) ?_
  refine x_aload_n (pc := 44) (show decode mX3_copyFrom.2.1 44 = .ok (.aload_n 0, 1) by decide +kernel) rfl rfl ?_
  refine x_getR (pc := 45) f3_25 rfl rfl (show decode mX3_copyFrom.2.1 45 = .ok (.getfield 25, 3) by decide +kernel) ?_
  refine x_iconst (pc := 48) (n := 0) (show decode mX3_copyFrom.2.1 48 = .ok (.iconst 0, 1) by decide +kernel) ?_
  refine x_bipush (pc := 49) (n := 30) (show decode mX3_copyFrom.2.1 49 = .ok (.bipush 30, 2) by decide +kernel) rfl ?_
  refine x_copy (pc := 51) rfl rfl (tblG_m4 166 rfl rfl) ac_native ac_static ac_init (by decide) (Nat.le_of_ble_eq_true rfl) hd (show decode mX3_copyFrom.2.1 51 = .ok (.invokestatic 37, 3) by decide +kernel) ?_
  refine x_aload_n (pc := 54) (show decode mX3_copyFrom.2.1 54 = .ok (.aload_n 1, 1) by decide +kernel) rfl rfl ?_
  refine x_getR (pc := 55) f3_28 rfl rfl (show decode mX3_copyFrom.2.1 55 = .ok (.getfield 28, 3) by decide +kernel) ?_
  refine x_iconst (pc := 58) (n := 0) (show decode mX3_copyFrom.2.1 58 = .ok (.iconst 0, 1) by decide +kernel) ?_
  refine x_aload_n (pc := 59) (show decode mX3_copyFrom.2.1 59 = .ok (.aload_n 0, 1) by decide +kernel) rfl rfl ?_
  refine x_getR (pc := 60) f3_28 rfl rfl (show decode mX3_copyFrom.2.1 60 = .ok (.getfield 28, 3) by decide +kernel) ?_
  refine x_iconst (pc := 63) (n := 0) (show decode mX3_copyFrom.2.1 63 = .ok (.iconst 0, 1) by decide +kernel) ?_
  refine x_bipush (pc := 64) (n := 30) (show decode mX3_copyFrom.2.1 64 = .ok (.bipush 30, 2) by decide +kernel) rfl ?_
  refine x_copy (pc := 66) rfl rfl (tblG_m4 166 rfl rfl) ac_native ac_static ac_init (by decide) (Nat.le_of_ble_eq_true rfl) hd (show decode mX3_copyFrom.2.1 66 = .ok (.invokestatic 37, 3) by decide +kernel) ?_
  refine x_aload_n (pc := 69) (show decode mX3_copyFrom.2.1 69 = .ok (.aload_n 0, 1) by decide +kernel) rfl rfl ?_
  refine x_aload_n (pc := 70) (show decode mX3_copyFrom.2.1 70 = .ok (.aload_n 1, 1) by decide +kernel) rfl rfl ?_
  refine x_getI (pc := 71) (ki := 6) f3_31 rfl rfl (by decide) rfl (show decode mX3_copyFrom.2.1 71 = .ok (.getfield 31, 3) by decide +kernel) ?_
  refine x_putI (pc := 74) (ki := 6) f3_31 fp3_6 rfl rfl rfl (show decode mX3_copyFrom.2.1 74 = .ok (.putfield 31, 3) by decide +kernel) ?_
  refine x_aload_n (pc := 77) (show decode mX3_copyFrom.2.1 77 = .ok (.aload_n 1, 1) by decide +kernel) rfl rfl ?_
  refine x_getR (pc := 78) f3_34 rfl rfl (show decode mX3_copyFrom.2.1 78 = .ok (.getfield 34, 3) by decide +kernel) ?_
  refine x_iconst (pc := 81) (n := 0) (show decode mX3_copyFrom.2.1 81 = .ok (.iconst 0, 1) by decide +kernel) ?_
  refine x_aload_n (pc := 82) (show decode mX3_copyFrom.2.1 82 = .ok (.aload_n 0, 1) by decide +kernel) rfl rfl ?_
  refine x_getR (pc := 83) f3_34 rfl rfl (show decode mX3_copyFrom.2.1 83 = .ok (.getfield 34, 3) by decide +kernel) ?_
  refine x_iconst (pc := 86) (n := 0) (show decode mX3_copyFrom.2.1 86 = .ok (.iconst 0, 1) by decide +kernel) ?_
  refine x_bipush (pc := 87) (n := 10) (show decode mX3_copyFrom.2.1 87 = .ok (.bipush 10, 2) by decide +kernel) rfl ?_
  refine x_copy (pc := 89) rfl rfl (tblG_m4 166 rfl rfl) ac_native ac_static ac_init (by decide) (Nat.le_of_ble_eq_true rfl) hd (show decode mX3_copyFrom.2.1 89 = .ok (.invokestatic 37, 3) by decide +kernel) ?_
  exact x_vret (pc := 92) rfl (show decode mX3_copyFrom.2.1 92 = .ok (.return_, 1) by decide +kernel) ⟨rfl, hR⟩
set_option maxRecDepth 4000 in
theorem sg_X3_copyFrom_1_21_0 {d : Nat} {h : xH} {Q : xH → Prop} (hd : 1 ≤ d)
    (hR : Q (xcp (xu (xcp (xcp (xcp (xu (xu (xu h 1 0 (h 21 0)) 1 1 (h 21 1)) 1 2 (h 21 2)) 22 2 30) 23 3 30) 24 4 30) 1 6 (h 21 6)) 25 5 10)) :
    gV wdC d mX3_copyFrom 0 [some (.inr (.inr 1)), some (.inr (.inr 21))] h Q := by
  unfold gV
  refine x_aload_n (pc := 0) (show decode mX3_copyFrom.2.1 0 = .ok (.aload_n 0, 1) by decide +kernel) rfl rfl ?_
  refine x_aload_n (pc := 1) (show decode mX3_copyFrom.2.1 1 = .ok (.aload_n 1, 1) by decide +kernel) rfl rfl ?_
  refine x_getI (pc := 2) (ki := 0) f3_9 rfl rfl (by decide) rfl (show decode mX3_copyFrom.2.1 2 = .ok (.getfield 9, 3) by decide +kernel) ?_
  refine x_putI (pc := 5) (ki := 0) f3_9 fp3_0 rfl rfl rfl (show decode mX3_copyFrom.2.1 5 = .ok (.putfield 9, 3) by decide +kernel) ?_
  refine x_aload_n (pc := 8) (show decode mX3_copyFrom.2.1 8 = .ok (.aload_n 0, 1) by decide +kernel) rfl rfl ?_
  refine x_aload_n (pc := 9) (show decode mX3_copyFrom.2.1 9 = .ok (.aload_n 1, 1) by decide +kernel) rfl rfl ?_
  refine x_getI (pc := 10) (ki := 1) f3_15 rfl rfl (by decide) rfl (show decode mX3_copyFrom.2.1 10 = .ok (.getfield 15, 3) by decide +kernel) ?_
  refine x_putI (pc := 13) (ki := 1) f3_15 fp3_1 rfl rfl rfl (show decode mX3_copyFrom.2.1 13 = .ok (.putfield 15, 3) by decide +kernel) ?_
  refine x_aload_n (pc := 16) (show decode mX3_copyFrom.2.1 16 = .ok (.aload_n 0, 1) by decide +kernel) rfl rfl ?_
  refine x_aload_n (pc := 17) (show decode mX3_copyFrom.2.1 17 = .ok (.aload_n 1, 1) by decide +kernel) rfl rfl ?_
  refine x_getI (pc := 18) (ki := 2) f3_18 rfl rfl (by decide) rfl (show decode mX3_copyFrom.2.1 18 = .ok (.getfield 18, 3) by decide +kernel) ?_
  refine x_putI (pc := 21) (ki := 2) f3_18 fp3_2 rfl rfl rfl (show decode mX3_copyFrom.2.1 21 = .ok (.putfield 18, 3) by decide +kernel) ?_
  refine x_aload_n (pc := 24) (show decode mX3_copyFrom.2.1 24 = .ok (.aload_n 1, 1) by decide +kernel) rfl rfl ?_
  refine x_getR (pc := 25) f3_21 rfl rfl (show decode mX3_copyFrom.2.1 25 = .ok (.getfield 21, 3) by decide +kernel) ?_
  refine x_iconst (pc := 28) (n := 0) (show decode mX3_copyFrom.2.1 28 = .ok (.iconst 0, 1) by decide +kernel) ?_
  refine x_aload_n (pc := 29) (show decode mX3_copyFrom.2.1 29 = .ok (.aload_n 0, 1) by decide +kernel) rfl rfl ?_
  refine x_getR (pc := 30) f3_21 rfl rfl (show decode mX3_copyFrom.2.1 30 = .ok (.getfield 21, 3) by decide +kernel) ?_
  refine x_iconst (pc := 33) (n := 0) (show decode mX3_copyFrom.2.1 33 = .ok (.iconst 0, 1) by decide +kernel) ?_
  refine x_bipush (pc := 34) (n := 30) (show decode mX3_copyFrom.2.1 34 = .ok (.bipush 30, 2) by decide +kernel) rfl ?_
  refine x_copy (pc := 36) rfl rfl (tblG_m4 166 rfl rfl) ac_native ac_static ac_init (by decide) (Nat.le_of_ble_eq_true rfl) hd (show decode mX3_copyFrom.2.1 36 = .ok (.invokestatic 37, 3) by decide +kernel) ?_
  refine x_aload_n (pc := 39) (show decode mX3_copyFrom.2.1 39 = .ok (.aload_n 1, 1) by decide +kernel) rfl rfl ?_
  refine x_getR (pc := 40) f3_25 rfl rfl (show decode mX3_copyFrom.2.1 40 = .ok (.getfield 25, 3) by decide +kernel) ?_
  refine x_iconst (pc := 43) (n := 0) (show decode mX3_copyFrom.2.1 43 = .ok (.iconst 0, 1) by decide +kernel) ?_
  refine x_aload_n (pc := 44) (show decode mX3_copyFrom.2.1 44 = .ok (.aload_n 0, 1) by decide +kernel) rfl rfl ?_
  refine x_getR (pc := 45) f3_25 rfl rfl (show decode mX3_copyFrom.2.1 45 = .ok (.getfield 25, 3) by decide +kernel) ?_
  refine x_iconst (pc := 48) (n := 0) (show decode mX3_copyFrom.2.1 48 = .ok (.iconst 0, 1) by decide +kernel) ?_
  refine x_bipush (pc := 49) (n := 30) (show decode mX3_copyFrom.2.1 49 = .ok (.bipush 30, 2) by decide +kernel) rfl ?_
  refine x_copy (pc := 51) rfl rfl (tblG_m4 166 rfl rfl) ac_native ac_static ac_init (by decide) (Nat.le_of_ble_eq_true rfl) hd (show decode mX3_copyFrom.2.1 51 = .ok (.invokestatic 37, 3) by decide +kernel) ?_
  refine x_aload_n (pc := 54) (show decode mX3_copyFrom.2.1 54 = .ok (.aload_n 1, 1) by decide +kernel) rfl rfl ?_
  refine x_getR (pc := 55) f3_28 rfl rfl (show decode mX3_copyFrom.2.1 55 = .ok (.getfield 28, 3) by decide +kernel) ?_
  refine x_iconst (pc := 58) (n := 0) (show decode mX3_copyFrom.2.1 58 = .ok (.iconst 0, 1) by decide +kernel) ?_
  refine x_aload_n (pc := 59) (show decode mX3_copyFrom.2.1 59 = .ok (.aload_n 0, 1) by decide +kernel) rfl rfl ?_
  refine x_getR (pc := 60) f3_28 rfl rfl (show decode mX3_copyFrom.2.1 60 = .ok (.getfield 28, 3) by decide +kernel) ?_
  refine x_iconst (pc := 63) (n := 0) (show decode mX3_copyFrom.2.1 63 = .ok (.iconst 0, 1) by decide +kernel) ?_
  refine x_bipush (pc := 64) (n := 30) (show decode mX3_copyFrom.2.1 64 = .ok (.bipush 30, 2) by decide +kernel) rfl ?_
  refine x_copy (pc := 66) rfl rfl (tblG_m4 166 rfl rfl) ac_native ac_static ac_init (by decide) (Nat.le_of_ble_eq_true rfl) hd (show decode mX3_copyFrom.2.1 66 = .ok (.invokestatic 37, 3) by decide +kernel) ?_
  refine x_aload_n (pc := 69) (show decode mX3_copyFrom.2.1 69 = .ok (.aload_n 0, 1) by decide +kernel) rfl rfl ?_
  refine x_aload_n (pc := 70) (show decode mX3_copyFrom.2.1 70 = .ok (.aload_n 1, 1) by decide +kernel) rfl rfl ?_
  refine x_getI (pc := 71) (ki := 6) f3_31 rfl rfl (by decide) rfl (show decode mX3_copyFrom.2.1 71 = .ok (.getfield 31, 3) by decide +kernel) ?_
  refine x_putI (pc := 74) (ki := 6) f3_31 fp3_6 rfl rfl rfl (show decode mX3_copyFrom.2.1 74 = .ok (.putfield 31, 3) by decide +kernel) ?_
  refine x_aload_n (pc := 77) (show decode mX3_copyFrom.2.1 77 = .ok (.aload_n 1, 1) by decide +kernel) rfl rfl ?_
  refine x_getR (pc := 78) f3_34 rfl rfl (show decode mX3_copyFrom.2.1 78 = .ok (.getfield 34, 3) by decide +kernel) ?_
  refine x_iconst (pc := 81) (n := 0) (show decode mX3_copyFrom.2.1 81 = .ok (.iconst 0, 1) by decide +kernel) ?_
  refine x_aload_n (pc := 82) (show decode mX3_copyFrom.2.1 82 = .ok (.aload_n 0, 1) by decide +kernel) rfl rfl ?_
  refine x_getR (pc := 83) f3_34 rfl rfl (show decode mX3_copyFrom.2.1 83 = .ok (.getfield 34, 3) by decide +kernel) ?_
  refine x_iconst (pc := 86) (n := 0) (show decode mX3_copyFrom.2.1 86 = .ok (.iconst 0, 1) by decide +kernel) ?_
  refine x_bipush (pc := 87) (n := 10) (show decode mX3_copyFrom.2.1 87 = .ok (.bipush 10, 2) by decide +kernel) rfl ?_
  refine x_copy (pc := 89) rfl rfl (tblG_m4 166 rfl rfl) ac_native ac_static ac_init (by decide) (Nat.le_of_ble_eq_true rfl) hd (show decode mX3_copyFrom.2.1 89 = .ok (.invokestatic 37, 3) by decide +kernel) ?_
  exact x_vret (pc := 92) rfl (show decode mX3_copyFrom.2.1 92 = .ok (.return_, 1) by decide +kernel) ⟨rfl, hR⟩
set_option maxRecDepth 4000 in
theorem sg_X3_copyFrom_11_1_0 {d : Nat} {h : xH} {Q : xH → Prop} (hd : 1 ≤ d)
    (hR : Q (xcp (xu (xcp (xcp (xcp (xu (xu (xu h 11 0 (h 1 0)) 11 1 (h 1 1)) 11 2 (h 1 2)) 2 12 30) 3 13 30) 4 14 30) 11 6 (h 1 6)) 5 15 10)) :
    gV wdC d mX3_copyFrom 0 [some (.inr (.inr 11)), some (.inr (.inr 1))] h Q := by
  unfold gV
  refine x_aload_n (pc := 0) (show decode mX3_copyFrom.2.1 0 = .ok (.aload_n 0, 1) by decide +kernel) rfl rfl ?_
  refine x_aload_n (pc := 1) (show decode mX3_copyFrom.2.1 1 = .ok (.aload_n 1, 1) by decide +kernel) rfl rfl ?_
  refine x_getI (pc := 2) (ki := 0) f3_9 rfl rfl (by decide) rfl (show decode mX3_copyFrom.2.1 2 = .ok (.getfield 9, 3) by decide +kernel) ?_
  refine x_putI (pc := 5) (ki := 0) f3_9 fp3_0 rfl rfl rfl (show decode mX3_copyFrom.2.1 5 = .ok (.putfield 9, 3) by decide +kernel) ?_
  refine x_aload_n (pc := 8) (show decode mX3_copyFrom.2.1 8 = .ok (.aload_n 0, 1) by decide +kernel) rfl rfl ?_
  refine x_aload_n (pc := 9) (show decode mX3_copyFrom.2.1 9 = .ok (.aload_n 1, 1) by decide +kernel) rfl rfl ?_
  refine x_getI (pc := 10) (ki := 1) f3_15 rfl rfl (by decide) rfl (show decode mX3_copyFrom.2.1 10 = .ok (.getfield 15, 3) by decide +kernel) ?_
  refine x_putI (pc := 13) (ki := 1) f3_15 fp3_1 rfl rfl rfl (show decode mX3_copyFrom.2.1 13 = .ok (.putfield 15, 3) by decide +kernel) ?_
  refine x_aload_n (pc := 16) (show decode mX3_copyFrom.2.1 16 = .ok (.aload_n 0, 1) by decide +kernel) rfl rfl ?_
  refine x_aload_n (pc := 17) (show decode mX3_copyFrom.2.1 17 = .ok (.aload_n 1, 1) by decide +kernel) rfl rfl ?_
  refine x_getI (pc := 18) (ki := 2) f3_18 rfl rfl (by decide) rfl (show decode mX3_copyFrom.2.1 18 = .ok (.getfield 18, 3) by decide +kernel) ?_
  refine x_putI (pc := 21) (ki := 2) f3_18 fp3_2 rfl rfl rfl (show decode mX3_copyFrom.2.1 21 = .ok (.putfield 18, 3) by decide +kernel) ?_
  refine x_aload_n (pc := 24) (show decode mX3_copyFrom.2.1 24 = .ok (.aload_n 1, 1) by decide +kernel) rfl rfl ?_
  refine x_getR (pc := 25) f3_21 rfl rfl (show decode mX3_copyFrom.2.1 25 = .ok (.getfield 21, 3) by decide +kernel) ?_
  refine x_iconst (pc := 28) (n := 0) (show decode mX3_copyFrom.2.1 28 = .ok (.iconst 0, 1) by decide +kernel) ?_
  refine x_aload_n (pc := 29) (show decode mX3_copyFrom.2.1 29 = .ok (.aload_n 0, 1) by decide +kernel) rfl rfl ?_
  refine x_getR (pc := 30) f3_21 rfl rfl (show decode mX3_copyFrom.2.1 30 = .ok (.getfield 21, 3) by decide +kernel) ?_
  refine x_iconst (pc := 33) (n := 0) (show decode mX3_copyFrom.2.1 33 = .ok (.iconst 0, 1) by decide +kernel) ?_
  refine x_bipush (pc := 34) (n := 30) (show decode mX3_copyFrom.2.1 34 = .ok (.bipush 30, 2) by decide +kernel) rfl ?_
  refine x_copy (pc := 36) rfl rfl (tblG_m4 166 rfl rfl) ac_native ac_static ac_init (by decide) (Nat.le_of_ble_eq_true rfl) hd (show decode mX3_copyFrom.2.1 36 = .ok (.invokestatic 37, 3) by decide +kernel) ?_
  refine x_aload_n (pc := 39) (show decode mX3_copyFrom.2.1 39 = .ok (.aload_n 1, 1) by decide +kernel) rfl rfl ?_
  refine x_getR (pc := 40) f3_25 rfl rfl (show decode mX3_copyFrom.2.1 40 = .ok (.getfield 25, 3) by decide +kernel) ?_
  refine x_iconst (pc := 43) (n := 0) (show decode mX3_copyFrom.2.1 43 = .ok (.iconst 0, 1) by decide +kernel) ?_
  refine x_aload_n (pc := 44) (show decode mX3_copyFrom.2.1 44 = .ok (.aload_n 0, 1) by decide +kernel) rfl rfl ?_
  refine x_getR (pc := 45) f3_25 rfl rfl (show decode mX3_copyFrom.2.1 45 = .ok (.getfield 25, 3) by decide +kernel) ?_
  refine x_iconst (pc := 48) (n := 0) (show decode mX3_copyFrom.2.1 48 = .ok (.iconst 0, 1) by decide +kernel) ?_
  refine x_bipush (pc := 49) (n := 30) (show decode mX3_copyFrom.2.1 49 = .ok (.bipush 30, 2) by decide +kernel) rfl ?_
  refine x_copy (pc := 51) rfl rfl (tblG_m4 166 rfl rfl) ac_native ac_static ac_init (by decide) (Nat.le_of_ble_eq_true rfl) hd (show decode mX3_copyFrom.2.1 51 = .ok (.invokestatic 37, 3) by decide +kernel) ?_
  refine x_aload_n (pc := 54) (show decode mX3_copyFrom.2.1 54 = .ok (.aload_n 1, 1) by decide +kernel) rfl rfl ?_
  refine x_getR (pc := 55) f3_28 rfl rfl (show decode mX3_copyFrom.2.1 55 = .ok (.getfield 28, 3) by decide +kernel) ?_
  refine x_iconst (pc := 58) (n := 0) (show decode mX3_copyFrom.2.1 58 = .ok (.iconst 0, 1) by decide +kernel) ?_
  refine x_aload_n (pc := 59) (show decode mX3_copyFrom.2.1 59 = .ok (.aload_n 0, 1) by decide +kernel) rfl rfl ?_
  refine x_getR (pc := 60) f3_28 rfl rfl (show decode mX3_copyFrom.2.1 60 = .ok (.getfield 28, 3) by decide +kernel) ?_
  refine x_iconst (pc := 63) (n := 0) (show decode mX3_copyFrom.2.1 63 = .ok (.iconst 0, 1) by decide +kernel) ?_
  refine x_bipush (pc := 64) (n := 30) (show decode mX3_copyFrom.2.1 64 = .ok (.bipush 30, 2) by decide +kernel) rfl ?_
  refine x_copy (pc := 66) rfl rfl (tblG_m4 166 rfl rfl) ac_native ac_static ac_init (by decide) (Nat.le_of_ble_eq_true rfl) hd (show decode mX3_copyFrom.2.1 66 = .ok (.invokestatic 37, 3) by decide +kernel) ?_
  refine x_aload_n (pc := 69) (show decode mX3_copyFrom.2.1 69 = .ok (.aload_n 0, 1) by decide +kernel) rfl rfl ?_
  refine x_aload_n (pc := 70) (show decode mX3_copyFrom.2.1 70 = .ok (.aload_n 1, 1) by decide +kernel) rfl rfl ?_
  refine x_getI (pc := 71) (ki := 6) f3_31 rfl rfl (by decide) rfl (show decode mX3_copyFrom.2.1 71 = .ok (.getfield 31, 3) by decide +kernel) ?_
  refine x_putI (pc := 74) (ki := 6) f3_31 fp3_6 rfl rfl rfl (show decode mX3_copyFrom.2.1 74 = .ok (.putfield 31, 3) by decide +kernel) ?_
  refine x_aload_n (pc := 77) (show decode mX3_copyFrom.2.1 77 = .ok (.aload_n 1, 1) by decide +kernel) rfl rfl ?_
  refine x_getR (pc := 78) f3_34 rfl rfl (show decode mX3_copyFrom.2.1 78 = .ok (.getfield 34, 3) by decide +kernel) ?_
  refine x_iconst (pc := 81) (n := 0) (show decode mX3_copyFrom.2.1 81 = .ok (.iconst 0, 1) by decide +kernel) ?_
  refine x_aload_n (pc := 82) (show decode mX3_copyFrom.2.1 82 = .ok (.aload_n 0, 1) by decide +kernel) rfl rfl ?_
  refine x_getR (pc := 83) f3_34 rfl rfl (show decode mX3_copyFrom.2.1 83 = .ok (.getfield 34, 3) by decide +kernel) ?_
  refine x_iconst (pc := 86) (n := 0) (show decode mX3_copyFrom.2.1 86 = .ok (.iconst 0, 1) by decide +kernel) ?_
  refine x_bipush (pc := 87) (n := 10) (show decode mX3_copyFrom.2.1 87 = .ok (.bipush 10, 2) by decide +kernel) rfl ?_
  refine x_copy (pc := 89) rfl rfl (tblG_m4 166 rfl rfl) ac_native ac_static ac_init (by decide) (Nat.le_of_ble_eq_true rfl) hd (show decode mX3_copyFrom.2.1 89 = .ok (.invokestatic 37, 3) by decide +kernel) ?_
  exact x_vret (pc := 92) rfl (show decode mX3_copyFrom.2.1 92 = .ok (.return_, 1) by decide +kernel) ⟨rfl, hR⟩
set_option maxRecDepth 4000 in
theorem sg_X3_copyFrom_1_11_0 {d : Nat} {h : xH} {Q : xH → Prop} (hd : 1 ≤ d)
    (hR : Q (xcp (xu (xcp (xcp (xcp (xu (xu (xu h 1 0 (h 11 0)) 1 1 (h 11 1)) 1 2 (h 11 2)) 12 2 30) 13 3 30) 14 4 30) 1 6 (h 11 6)) 15 5 10)) :
    gV wdC d mX3_copyFrom 0 [some (.inr (.inr 1)), some (.inr (.inr 11))] h Q := by
  unfold gV
  refine x_aload_n (pc := 0) (show decode mX3_copyFrom.2.1 0 = .ok (.aload_n 0, 1) by decide +kernel) rfl rfl ?_
  refine x_aload_n (pc := 1) (show decode mX3_copyFrom.2.1 1 = .ok (.aload_n 1, 1) by decide +kernel) rfl rfl ?_
  refine x_getI (pc := 2) (ki := 0) f3_9 rfl rfl (by decide) rfl (show decode mX3_copyFrom.2.1 2 = .ok (.getfield 9, 3) by decide +kernel) ?_
  refine x_putI (pc := 5) (ki := 0) f3_9 fp3_0 rfl rfl rfl (show decode mX3_copyFrom.2.1 5 = .ok (.putfield 9, 3) by decide +kernel) ?_
  refine x_aload_n (pc := 8) (show decode mX3_copyFrom.2.1 8 = .ok (.aload_n 0, 1) by decide +kernel) rfl rfl ?_
  refine x_aload_n (pc := 9) (show decode mX3_copyFrom.2.1 9 = .ok (.aload_n 1, 1) by decide +kernel) rfl rfl ?_
  refine x_getI (pc := 10) (ki := 1) f3_15 rfl rfl (by decide) rfl (show decode mX3_copyFrom.2.1 10 = .ok (.getfield 15, 3) by decide +kernel) ?_
  refine x_putI (pc := 13) (ki := 1) f3_15 fp3_1 rfl rfl rfl (show decode mX3_copyFrom.2.1 13 = .ok (.putfield 15, 3) by decide +kernel) ?_
  refine x_aload_n (pc := 16) (show decode mX3_copyFrom.2.1 16 = .ok (.aload_n 0, 1) by decide +kernel) rfl rfl ?_
  refine x_aload_n (pc := 17) (show decode mX3_copyFrom.2.1 17 = .ok (.aload_n 1, 1) by decide +kernel) rfl rfl ?_
  refine x_getI (pc := 18) (ki := 2) f3_18 rfl rfl (by decide) rfl (show decode mX3_copyFrom.2.1 18 = .ok (.getfield 18, 3) by decide +kernel) ?_
  refine x_putI (pc := 21) (ki := 2) f3_18 fp3_2 rfl rfl rfl (show decode mX3_copyFrom.2.1 21 = .ok (.putfield 18, 3) by decide +kernel) ?_
  refine x_aload_n (pc := 24) (show decode mX3_copyFrom.2.1 24 = .ok (.aload_n 1, 1) by decide +kernel) rfl rfl ?_
  refine x_getR (pc := 25) f3_21 rfl rfl (show decode mX3_copyFrom.2.1 25 = .ok (.getfield 21, 3) by decide +kernel) ?_
  refine x_iconst (pc := 28) (n := 0) (show decode mX3_copyFrom.2.1 28 = .ok (.iconst 0, 1) by decide +kernel) ?_
  refine x_aload_n (pc := 29) (show decode mX3_copyFrom.2.1 29 = .ok (.aload_n 0, 1) by decide +kernel) rfl rfl ?_
  refine x_getR (pc := 30) f3_21 rfl rfl (show decode mX3_copyFrom.2.1 30 = .ok (.getfield 21, 3) by decide +kernel) ?_
  refine x_iconst (pc := 33) (n := 0) (show decode mX3_copyFrom.2.1 33 = .ok (.iconst 0, 1) by decide +kernel) ?_
  refine x_bipush (pc := 34) (n := 30) (show decode mX3_copyFrom.2.1 34 = .ok (.bipush 30, 2) by decide +kernel) rfl ?_
  refine x_copy (pc := 36) rfl rfl (tblG_m4 166 rfl rfl) ac_native ac_static ac_init (by decide) (Nat.le_of_ble_eq_true rfl) hd (show decode mX3_copyFrom.2.1 36 = .ok (.invokestatic 37, 3) by decide +kernel) ?_
  refine x_aload_n (pc := 39) (show decode mX3_copyFrom.2.1 39 = .ok (.aload_n 1, 1) by decide +kernel) rfl rfl ?_
  refine x_getR (pc := 40) f3_25 rfl rfl (show decode mX3_copyFrom.2.1 40 = .ok (.getfield 25, 3) by decide +kernel) ?_
  refine x_iconst (pc := 43) (n := 0) (show decode mX3_copyFrom.2.1 43 = .ok (.iconst 0, 1) by decide +kernel) ?_
  refine x_aload_n (pc := 44) (show decode mX3_copyFrom.2.1 44 = .ok (.aload_n 0, 1) by decide +kernel) rfl rfl ?_
  refine x_getR (pc := 45) f3_25 rfl rfl (show decode mX3_copyFrom.2.1 45 = .ok (.getfield 25, 3) by decide +kernel) ?_
  refine x_iconst (pc := 48) (n := 0) (show decode mX3_copyFrom.2.1 48 = .ok (.iconst 0, 1) by decide +kernel) ?_
  refine x_bipush (pc := 49) (n := 30) (show decode mX3_copyFrom.2.1 49 = .ok (.bipush 30, 2) by decide +kernel) rfl ?_
  refine x_copy (pc := 51) rfl rfl (tblG_m4 166 rfl rfl) ac_native ac_static ac_init (by decide) (Nat.le_of_ble_eq_true rfl) hd (show decode mX3_copyFrom.2.1 51 = .ok (.invokestatic 37, 3) by decide +kernel) ?_
  refine x_aload_n (pc := 54) (show decode mX3_copyFrom.2.1 54 = .ok (.aload_n 1, 1) by decide +kernel) rfl rfl ?_
  refine x_getR (pc := 55) f3_28 rfl rfl (show decode mX3_copyFrom.2.1 55 = .ok (.getfield 28, 3) by decide +kernel) ?_
  refine x_iconst (pc := 58) (n := 0) (show decode mX3_copyFrom.2.1 58 = .ok (.iconst 0, 1) by decide +kernel) ?_
  refine x_aload_n (pc := 59) (show decode mX3_copyFrom.2.1 59 = .ok (.aload_n 0, 1) by decide +kernel) rfl rfl ?_
  refine x_getR (pc := 60) f3_28 rfl rfl (show decode mX3_copyFrom.2.1 60 = .ok (.getfield 28, 3) by decide +kernel) ?_
  refine x_iconst (pc := 63) (n := 0) (show decode mX3_copyFrom.2.1 63 = .ok (.iconst 0, 1) by decide +kernel) ?_
  refine x_bipush (pc := 64) (n := 30) (show decode mX3_copyFrom.2.1 64 = .ok (.bipush 30, 2) by decide +kernel) rfl ?_
  refine x_copy (pc := 66) rfl rfl (tblG_m4 166 rfl rfl) ac_native ac_static ac_init (by decide) (Nat.le_of_ble_eq_true rfl) hd (show decode mX3_copyFrom.2.1 66 = .ok (.invokestatic 37, 3) by decide +kernel) ?_
  refine x_aload_n (pc := 69) (show decode mX3_copyFrom.2.1 69 = .ok (.aload_n 0, 1) by decide +kernel) rfl rfl ?_
  refine x_aload_n (pc := 70) (show decode mX3_copyFrom.2.1 70 = .ok (.aload_n 1, 1) by decide +kernel) rfl rfl ?_
  refine x_getI (pc := 71) (ki := 6) f3_31 rfl rfl (by decide) rfl (show decode mX3_copyFrom.2.1 71 = .ok (.getfield 31, 3) by decide +kernel) ?_
  refine x_putI (pc := 74) (ki := 6) f3_31 fp3_6 rfl rfl rfl (show decode mX3_copyFrom.2.1 74 = .ok (.putfield 31, 3) by decide +kernel) ?_
  refine x_aload_n (pc := 77) (show decode mX3_copyFrom.2.1 77 = .ok (.aload_n 1, 1) by decide +kernel) rfl rfl ?_
  refine x_getR (pc := 78) f3_34 rfl rfl (show decode mX3_copyFrom.2.1 78 = .ok (.getfield 34, 3) by decide +kernel) ?_
  refine x_iconst (pc := 81) (n := 0) (show decode mX3_copyFrom.2.1 81 = .ok (.iconst 0, 1) by decide +kernel) ?_
  refine x_aload_n (pc := 82) (show decode mX3_copyFrom.2.1 82 = .ok (.aload_n 0, 1) by decide +kernel) rfl rfl ?_
  refine x_getR (pc := 83) f3_34 rfl rfl (show decode mX3_copyFrom.2.1 83 = .ok (.getfield 34, 3) by decide +kernel) ?_
  refine x_iconst (pc := 86) (n := 0) (show decode mX3_copyFrom.2.1 86 = .ok (.iconst 0, 1) by decide +kernel) ?_
  refine x_bipush (pc := 87) (n := 10) (show decode mX3_copyFrom.2.1 87 = .ok (.bipush 10, 2) by decide +kernel) rfl ?_
  refine x_copy (pc := 89) rfl rfl (tblG_m4 166 rfl rfl) ac_native ac_static ac_init (by decide) (Nat.le_of_ble_eq_true rfl) hd (show decode mX3_copyFrom.2.1 89 = .ok (.invokestatic 37, 3) by decide +kernel) ?_
  exact x_vret (pc := 92) rfl (show decode mX3_copyFrom.2.1 92 = .ok (.return_, 1) by decide +kernel) ⟨rfl, hR⟩
set_option maxRecDepth 4000 in
theorem sg_X3_isSlot_0 {d : Nat} {x1 : Int} {h : xH} {Q : Int → xH → Prop}
    (hR : (inI x1) ∧ (x1 < 0 → Q 0 h) ∧ (0 ≤ x1 → (inI x1 ∧ inI (h 1 0)) ∧ ((h 1 0) ≤ x1 → Q 0 h) ∧ (x1 < (h 1 0) → Q 1 h))) :
    gI wdC d mX3_isSlot 0 [some (.inr (.inr 1)), some (.inl x1)] h Q := by
  unfold gI
  refine x_iload_n (pc := 0) (show decode mX3_isSlot.2.1 0 = .ok (.iload_n 1, 1) by decide +kernel) rfl rfl ?_
  obtain ⟨hg, hR⟩ := hR
  refine x_if_lt (pc := 1) (tgt := 16) (show decode mX3_isSlot.2.1 1 = .ok (.ifCond .lt 15, 3) by decide +kernel) (by decide) hg (fun hc => ?_) (fun hc => ?_)
  · replace hR := hR.1 hc
    refine x_iconst (pc := 16) (n := 0) (show decode mX3_isSlot.2.1 16 = .ok (.iconst 0, 1) by decide +kernel) ?_
    exact x_zret (pc := 17) rfl (show decode mX3_isSlot.2.1 17 = .ok (.ireturn, 1) by decide +kernel) (by decide) ⟨_, rfl, hR⟩
  · replace hR := hR.2 hc
    refine x_iload_n (pc := 4) (show decode mX3_isSlot.2.1 4 = .ok (.iload_n 1, 1) by decide +kernel) rfl rfl ?_
    refine x_aload_n (pc := 5) (show decode mX3_isSlot.2.1 5 = .ok (.aload_n 0, 1) by decide +kernel) rfl rfl ?_
    refine x_getI (pc := 6) (ki := 0) f3_9 rfl rfl (by decide) rfl (show decode mX3_isSlot.2.1 6 = .ok (.getfield 9, 3) by decide +kernel) ?_
    obtain ⟨hg, hR⟩ := hR
    refine x_icmp_ge (pc := 9) (tgt := 16) (show decode mX3_isSlot.2.1 9 = .ok (.if_icmp .ge 7, 3) by decide +kernel) (by decide) ⟨hg.1, hg.2⟩ (fun hc => ?_) (fun hc => ?_)
    · replace hR := hR.1 hc
      refine x_iconst (pc := 16) (n := 0) (show decode mX3_isSlot.2.1 16 = .ok (.iconst 0, 1) by decide +kernel) ?_
      exact x_zret (pc := 17) rfl (show decode mX3_isSlot.2.1 17 = .ok (.ireturn, 1) by decide +kernel) (by decide) ⟨_, rfl, hR⟩
    · replace hR := hR.2 hc
      refine x_iconst (pc := 12) (n := 1) (show decode mX3_isSlot.2.1 12 = .ok (.iconst 1, 1) by decide +kernel) ?_
      refine x_goto (pc := 13) (tgt := 17) (show decode mX3_isSlot.2.1 13 = .ok (.goto 4, 3) by decide +kernel) (by decide) ?_
      exact x_zret (pc := 17) rfl (show decode mX3_isSlot.2.1 17 = .ok (.ireturn, 1) by decide +kernel) (by decide) ⟨_, rfl, hR⟩
set_option maxRecDepth 4000 in
theorem sg_X3_isPinSlot_0 {d : Nat} {x1 : Int} {h : xH} {Q : Int → xH → Prop}
    (hR : (inI x1) ∧ (x1 < 0 → Q 0 h) ∧ (0 ≤ x1 → (inI x1 ∧ inI ((h 1 0) - 1)) ∧ (((h 1 0) - 1) ≤ x1 → Q 0 h) ∧ (x1 < ((h 1 0) - 1) → Q 1 h))) :
    gI wdC d mX3_isPinSlot 0 [some (.inr (.inr 1)), some (.inl x1)] h Q := by
  unfold gI
  refine x_iload_n (pc := 0) (show decode mX3_isPinSlot.2.1 0 = .ok (.iload_n 1, 1) by decide +kernel) rfl rfl ?_
  obtain ⟨hg, hR⟩ := hR
  refine x_if_lt (pc := 1) (tgt := 18) (show decode mX3_isPinSlot.2.1 1 = .ok (.ifCond .lt 17, 3) by decide +kernel) (by decide) hg (fun hc => ?_) (fun hc => ?_)
  · replace hR := hR.1 hc
    refine x_iconst (pc := 18) (n := 0) (show decode mX3_isPinSlot.2.1 18 = .ok (.iconst 0, 1) by decide +kernel) ?_
    exact x_zret (pc := 19) rfl (show decode mX3_isPinSlot.2.1 19 = .ok (.ireturn, 1) by decide +kernel) (by decide) ⟨_, rfl, hR⟩
  · replace hR := hR.2 hc
    refine x_iload_n (pc := 4) (show decode mX3_isPinSlot.2.1 4 = .ok (.iload_n 1, 1) by decide +kernel) rfl rfl ?_
    refine x_aload_n (pc := 5) (show decode mX3_isPinSlot.2.1 5 = .ok (.aload_n 0, 1) by decide +kernel) rfl rfl ?_
    refine x_getI (pc := 6) (ki := 0) f3_9 rfl rfl (by decide) rfl (show decode mX3_isPinSlot.2.1 6 = .ok (.getfield 9, 3) by decide +kernel) ?_
    refine x_iconst (pc := 9) (n := 1) (show decode mX3_isPinSlot.2.1 9 = .ok (.iconst 1, 1) by decide +kernel) ?_
    refine x_isub (pc := 10) (show decode mX3_isPinSlot.2.1 10 = .ok (.isub, 1) by decide +kernel) ?_
    obtain ⟨hg, hR⟩ := hR
    refine x_icmp_ge (pc := 11) (tgt := 18) (show decode mX3_isPinSlot.2.1 11 = .ok (.if_icmp .ge 7, 3) by decide +kernel) (by decide) ⟨hg.1, hg.2⟩ (fun hc => ?_) (fun hc => ?_)
    · replace hR := hR.1 hc
      refine x_iconst (pc := 18) (n := 0) (show decode mX3_isPinSlot.2.1 18 = .ok (.iconst 0, 1) by decide +kernel) ?_
      exact x_zret (pc := 19) rfl (show decode mX3_isPinSlot.2.1 19 = .ok (.ireturn, 1) by decide +kernel) (by decide) ⟨_, rfl, hR⟩
    · replace hR := hR.2 hc
      refine x_iconst (pc := 14) (n := 1) (show decode mX3_isPinSlot.2.1 14 = .ok (.iconst 1, 1) by decide +kernel) ?_
      refine x_goto (pc := 15) (tgt := 19) (show decode mX3_isPinSlot.2.1 15 = .ok (.goto 4, 3) by decide +kernel) (by decide) ?_
      exact x_zret (pc := 19) rfl (show decode mX3_isPinSlot.2.1 19 = .ok (.ireturn, 1) by decide +kernel) (by decide) ⟨_, rfl, hR⟩
set_option maxRecDepth 4000 in
theorem sg_X3_isPin_0 {d : Nat} {x1 : Int} {h : xH} {Q : Int → xH → Prop}
    (hR : (inI x1) ∧ (x1 < 0 → Q 0 h) ∧ (0 ≤ x1 → (inI x1 ∧ inI (h 1 2)) ∧ ((h 1 2) ≤ x1 → Q 0 h) ∧ (x1 < (h 1 2) → Q 1 h))) :
    gI wdC d mX3_isPin 0 [some (.inr (.inr 1)), some (.inl x1)] h Q := by
  unfold gI
  refine x_iload_n (pc := 0) (show decode mX3_isPin.2.1 0 = .ok (.iload_n 1, 1) by decide +kernel) rfl rfl ?_
  obtain ⟨hg, hR⟩ := hR
  refine x_if_lt (pc := 1) (tgt := 16) (show decode mX3_isPin.2.1 1 = .ok (.ifCond .lt 15, 3) by decide +kernel) (by decide) hg (fun hc => ?_) (fun hc => ?_)
  · replace hR := hR.1 hc
    refine x_iconst (pc := 16) (n := 0) (show decode mX3_isPin.2.1 16 = .ok (.iconst 0, 1) by decide +kernel) ?_
    exact x_zret (pc := 17) rfl (show decode mX3_isPin.2.1 17 = .ok (.ireturn, 1) by decide +kernel) (by decide) ⟨_, rfl, hR⟩
  · replace hR := hR.2 hc
    refine x_iload_n (pc := 4) (show decode mX3_isPin.2.1 4 = .ok (.iload_n 1, 1) by decide +kernel) rfl rfl ?_
    refine x_aload_n (pc := 5) (show decode mX3_isPin.2.1 5 = .ok (.aload_n 0, 1) by decide +kernel) rfl rfl ?_
    refine x_getI (pc := 6) (ki := 2) f3_18 rfl rfl (by decide) rfl (show decode mX3_isPin.2.1 6 = .ok (.getfield 18, 3) by decide +kernel) ?_
    obtain ⟨hg, hR⟩ := hR
    refine x_icmp_ge (pc := 9) (tgt := 16) (show decode mX3_isPin.2.1 9 = .ok (.if_icmp .ge 7, 3) by decide +kernel) (by decide) ⟨hg.1, hg.2⟩ (fun hc => ?_) (fun hc => ?_)
    · replace hR := hR.1 hc
      refine x_iconst (pc := 16) (n := 0) (show decode mX3_isPin.2.1 16 = .ok (.iconst 0, 1) by decide +kernel) ?_
      exact x_zret (pc := 17) rfl (show decode mX3_isPin.2.1 17 = .ok (.ireturn, 1) by decide +kernel) (by decide) ⟨_, rfl, hR⟩
    · replace hR := hR.2 hc
      refine x_iconst (pc := 12) (n := 1) (show decode mX3_isPin.2.1 12 = .ok (.iconst 1, 1) by decide +kernel) ?_
      refine x_goto (pc := 13) (tgt := 17) (show decode mX3_isPin.2.1 13 = .ok (.goto 4, 3) by decide +kernel) (by decide) ?_
      exact x_zret (pc := 17) rfl (show decode mX3_isPin.2.1 17 = .ok (.ireturn, 1) by decide +kernel) (by decide) ⟨_, rfl, hR⟩
set_option maxRecDepth 4000 in
theorem sg_X3_addPin_0 {d : Nat} {x1 x2 x3 : Int} {h : xH} {Q : Int → xH → Prop}
    (hR : gI wdC d mX3_addPin 3 [some (.inr (.inr 1)), some (.inl x1), some (.inl x2), some (.inl x3), some (.inl 0)] h Q) :
    gI wdC d mX3_addPin 0 [some (.inr (.inr 1)), some (.inl x1), some (.inl x2), some (.inl x3), none] h Q := by
  unfold gI
  refine x_iconst (pc := 0) (n := 0) (show decode mX3_addPin.2.1 0 = .ok (.iconst 0, 1) by decide +kernel) ?_
  refine x_istore (pc := 1) (ls' := [some (.inr (.inr 1)), some (.inl x1), some (.inl x2), some (.inl x3), some (.inl 0)]) (show decode mX3_addPin.2.1 1 = .ok (.istore 4, 2) by decide +kernel) (by decide) rfl ?_
  exact hR
set_option maxRecDepth 4000 in
theorem sg_X3_addPin_3 {d : Nat} {x1 x2 x3 x4 : Int} {h : xH} {Q : Int → xH → Prop} (hd : 1 ≤ d)
    (hR : (inI x4 ∧ inI (h 1 2)) ∧ ((h 1 2) ≤ x4 → (inI (h 1 2)) ∧ ((h 1 2) < 30 → (0 ≤ (h 1 2) ∧ (h 1 2) < 30) ∧ (0 ≤ (h 1 2) ∧ (h 1 2) < 30) ∧ (0 ≤ (h 1 2) ∧ (h 1 2) < 30) ∧ Q (((h 1 2) + 1) - 1) (xu (xu (xu (xu h 2 (h 1 2) x1) 3 (h 1 2) x2) 4 (h 1 2) x3) 1 2 ((h 1 2) + 1))) ∧ (30 ≤ (h 1 2) → Q (-4) h)) ∧ (x4 < (h 1 2) → (0 ≤ x4 ∧ x4 < 30) ∧ (inI (h 2 x4) ∧ inI x1) ∧ (¬ (h 2 x4) = x1 → gI wdC d mX3_addPin 3 [some (.inr (.inr 1)), some (.inl x1), some (.inl x2), some (.inl x3), some (.inl (x4 + 1))] h Q) ∧ ((h 2 x4) = x1 → (0 ≤ x4 ∧ x4 < 30) ∧ (inI ((h 3 x4) - x2)) ∧ (inI (max ((h 3 x4) - x2) (-((h 3 x4) - x2)))) ∧ (1 < (max ((h 3 x4) - x2) (-((h 3 x4) - x2))) → gI wdC d mX3_addPin 3 [some (.inr (.inr 1)), some (.inl x1), some (.inl x2), some (.inl x3), some (.inl (x4 + 1))] h Q) ∧ ((max ((h 3 x4) - x2) (-((h 3 x4) - x2))) ≤ 1 → Q (-3) h)))) :
    gI wdC d mX3_addPin 3 [some (.inr (.inr 1)), some (.inl x1), some (.inl x2), some (.inl x3), some (.inl x4)] h Q := by
  unfold gI
  refine x_iload (pc := 3) (show decode mX3_addPin.2.1 3 = .ok (.iload 4, 2) by decide +kernel) rfl ?_
  refine x_aload_n (pc := 5) (show decode mX3_addPin.2.1 5 = .ok (.aload_n 0, 1) by decide +kernel) rfl rfl ?_
  refine x_getI (pc := 6) (ki := 2) f3_18 rfl rfl (by decide) rfl (show decode mX3_addPin.2.1 6 = .ok (.getfield 18, 3) by decide +kernel) ?_
  obtain ⟨hg, hR⟩ := hR
  refine x_icmp_ge (pc := 9) (tgt := 48) (show decode mX3_addPin.2.1 9 = .ok (.if_icmp .ge 39, 3) by decide +kernel) (by decide) ⟨hg.1, hg.2⟩ (fun hc => ?_) (fun hc => ?_)
  · replace hR := hR.1 hc
    refine x_aload_n (pc := 48) (show decode mX3_addPin.2.1 48 = .ok (.aload_n 0, 1) by decide +kernel) rfl rfl ?_
    refine x_getI (pc := 49) (ki := 2) f3_18 rfl rfl (by decide) rfl (show decode mX3_addPin.2.1 49 = .ok (.getfield 18, 3) by decide +kernel) ?_
    refine x_bipush (pc := 52) (n := 30) (show decode mX3_addPin.2.1 52 = .ok (.bipush 30, 2) by decide +kernel) rfl ?_
    obtain ⟨hg, hR⟩ := hR
    refine x_icmp_lt (pc := 54) (tgt := 60) (show decode mX3_addPin.2.1 54 = .ok (.if_icmp .lt 6, 3) by decide +kernel) (by decide) ⟨hg, (by unfold inI; decide)⟩ (fun hc => ?_) (fun hc => ?_)
    · replace hR := hR.1 hc
      refine x_aload_n (pc := 60) (show decode mX3_addPin.2.1 60 = .ok (.aload_n 0, 1) by decide +kernel) rfl rfl ?_
      refine x_getR (pc := 61) f3_21 rfl rfl (show decode mX3_addPin.2.1 61 = .ok (.getfield 21, 3) by decide +kernel) ?_
      refine x_aload_n (pc := 64) (show decode mX3_addPin.2.1 64 = .ok (.aload_n 0, 1) by decide +kernel) rfl rfl ?_
      refine x_getI (pc := 65) (ki := 2) f3_18 rfl rfl (by decide) rfl (show decode mX3_addPin.2.1 65 = .ok (.getfield 18, 3) by decide +kernel) ?_
      refine x_iload_n (pc := 68) (show decode mX3_addPin.2.1 68 = .ok (.iload_n 1, 1) by decide +kernel) rfl rfl ?_
      obtain ⟨hg, hR⟩ := hR
      refine x_iast (pc := 69) rfl (by decide) hg (show decode mX3_addPin.2.1 69 = .ok (.iastore, 1) by decide +kernel) ?_
      refine x_aload_n (pc := 70) (show decode mX3_addPin.2.1 70 = .ok (.aload_n 0, 1) by decide +kernel) rfl rfl ?_
      refine x_getR (pc := 71) f3_25 rfl rfl (show decode mX3_addPin.2.1 71 = .ok (.getfield 25, 3) by decide +kernel) ?_
      refine x_aload_n (pc := 74) (show decode mX3_addPin.2.1 74 = .ok (.aload_n 0, 1) by decide +kernel) rfl rfl ?_
      refine x_getI (pc := 75) (ki := 2) f3_18 rfl rfl (by decide) rfl (show decode mX3_addPin.2.1 75 = .ok (.getfield 18, 3) by decide +kernel) ?_
      refine x_iload_n (pc := 78) (show decode mX3_addPin.2.1 78 = .ok (.iload_n 2, 1) by decide +kernel) rfl rfl ?_
      obtain ⟨hg, hR⟩ := hR
      refine x_iast (pc := 79) rfl (by decide) hg (show decode mX3_addPin.2.1 79 = .ok (.iastore, 1) by decide +kernel) ?_
      refine x_aload_n (pc := 80) (show decode mX3_addPin.2.1 80 = .ok (.aload_n 0, 1) by decide +kernel) rfl rfl ?_
      refine x_getR (pc := 81) f3_28 rfl rfl (show decode mX3_addPin.2.1 81 = .ok (.getfield 28, 3) by decide +kernel) ?_
      refine x_aload_n (pc := 84) (show decode mX3_addPin.2.1 84 = .ok (.aload_n 0, 1) by decide +kernel) rfl rfl ?_
      refine x_getI (pc := 85) (ki := 2) f3_18 rfl rfl (by decide) rfl (show decode mX3_addPin.2.1 85 = .ok (.getfield 18, 3) by decide +kernel) ?_
      refine x_iload_n (pc := 88) (show decode mX3_addPin.2.1 88 = .ok (.iload_n 3, 1) by decide +kernel) rfl rfl ?_
      obtain ⟨hg, hR⟩ := hR
      refine x_iast (pc := 89) rfl (by decide) hg (show decode mX3_addPin.2.1 89 = .ok (.iastore, 1) by decide +kernel) ?_
      refine x_aload_n (pc := 90) (show decode mX3_addPin.2.1 90 = .ok (.aload_n 0, 1) by decide +kernel) rfl rfl ?_
      refine x_dup (pc := 91) (show decode mX3_addPin.2.1 91 = .ok (.dup, 1) by decide +kernel) rfl ?_
      refine x_getI (pc := 92) (ki := 2) f3_18 rfl rfl (by decide) rfl (show decode mX3_addPin.2.1 92 = .ok (.getfield 18, 3) by decide +kernel) ?_
      refine x_iconst (pc := 95) (n := 1) (show decode mX3_addPin.2.1 95 = .ok (.iconst 1, 1) by decide +kernel) ?_
      refine x_iadd (pc := 96) (show decode mX3_addPin.2.1 96 = .ok (.iadd, 1) by decide +kernel) ?_
      refine x_putI (pc := 97) (ki := 2) f3_18 fp3_2 rfl rfl rfl (show decode mX3_addPin.2.1 97 = .ok (.putfield 18, 3) by decide +kernel) ?_
      refine x_aload_n (pc := 100) (show decode mX3_addPin.2.1 100 = .ok (.aload_n 0, 1) by decide +kernel) rfl rfl ?_
      refine x_getI (pc := 101) (ki := 2) f3_18 rfl rfl (by decide) rfl (show decode mX3_addPin.2.1 101 = .ok (.getfield 18, 3) by decide +kernel) ?_
      refine x_iconst (pc := 104) (n := 1) (show decode mX3_addPin.2.1 104 = .ok (.iconst 1, 1) by decide +kernel) ?_
      refine x_isub (pc := 105) (show decode mX3_addPin.2.1 105 = .ok (.isub, 1) by decide +kernel) ?_
      exact x_iret (pc := 106) rfl (show decode mX3_addPin.2.1 106 = .ok (.ireturn, 1) by decide +kernel) ⟨_, rfl, hR⟩
    · replace hR := hR.2 hc
      refine x_bipush (pc := 57) (n := (-4)) (show decode mX3_addPin.2.1 57 = .ok (.bipush (-4), 2) by decide +kernel) rfl ?_
      exact x_iret (pc := 59) rfl (show decode mX3_addPin.2.1 59 = .ok (.ireturn, 1) by decide +kernel) ⟨_, rfl, hR⟩
  · replace hR := hR.2 hc
    refine x_aload_n (pc := 12) (show decode mX3_addPin.2.1 12 = .ok (.aload_n 0, 1) by decide +kernel) rfl rfl ?_
    refine x_getR (pc := 13) f3_21 rfl rfl (show decode mX3_addPin.2.1 13 = .ok (.getfield 21, 3) by decide +kernel) ?_
    refine x_iload (pc := 16) (show decode mX3_addPin.2.1 16 = .ok (.iload 4, 2) by decide +kernel) rfl ?_
    obtain ⟨hg, hR⟩ := hR
    refine x_iald (pc := 18) rfl (by decide) hg (show decode mX3_addPin.2.1 18 = .ok (.iaload, 1) by decide +kernel) ?_
    refine x_iload_n (pc := 19) (show decode mX3_addPin.2.1 19 = .ok (.iload_n 1, 1) by decide +kernel) rfl rfl ?_
    obtain ⟨hg, hR⟩ := hR
    refine x_icmp_ne (pc := 20) (tgt := 42) (show decode mX3_addPin.2.1 20 = .ok (.if_icmp .ne 22, 3) by decide +kernel) (by decide) ⟨hg.1, hg.2⟩ (fun hc => ?_) (fun hc => ?_)
    · replace hR := hR.1 hc
      refine x_iinc (pc := 42) (ls' := [some (.inr (.inr 1)), some (.inl x1), some (.inl x2), some (.inl x3), some (.inl (x4 + 1))]) (show decode mX3_addPin.2.1 42 = .ok (.iinc 4 1, 3) by decide +kernel) (by decide) rfl rfl ?_
      refine x_goto (pc := 45) (tgt := 3) (show decode mX3_addPin.2.1 45 = .ok (.goto (-42), 3) by decide +kernel) (by decide) ?_
      exact hR
    · replace hR := hR.2 hc
      refine x_aload_n (pc := 23) (show decode mX3_addPin.2.1 23 = .ok (.aload_n 0, 1) by decide +kernel) rfl rfl ?_
      refine x_getR (pc := 24) f3_25 rfl rfl (show decode mX3_addPin.2.1 24 = .ok (.getfield 25, 3) by decide +kernel) ?_
      refine x_iload (pc := 27) (show decode mX3_addPin.2.1 27 = .ok (.iload 4, 2) by decide +kernel) rfl ?_
      obtain ⟨hg, hR⟩ := hR
      refine x_iald (pc := 29) rfl (by decide) hg (show decode mX3_addPin.2.1 29 = .ok (.iaload, 1) by decide +kernel) ?_
      refine x_iload_n (pc := 30) (show decode mX3_addPin.2.1 30 = .ok (.iload_n 2, 1) by decide +kernel) rfl rfl ?_
      refine x_isub (pc := 31) (show decode mX3_addPin.2.1 31 = .ok (.isub, 1) by decide +kernel) ?_
      obtain ⟨hg, hR⟩ := hR
      refine x_mabs (pc := 32) (b := 0) (tblG_m2 93 rfl rfl) MA_st M_in MA_cd hg (Nat.le_of_ble_eq_true rfl) hd (show decode mX3_addPin.2.1 32 = .ok (.invokestatic 43, 3) by decide +kernel) ?_
      refine x_iconst (pc := 35) (n := 1) (show decode mX3_addPin.2.1 35 = .ok (.iconst 1, 1) by decide +kernel) ?_
      obtain ⟨hg, hR⟩ := hR
      refine x_icmp_gt (pc := 36) (tgt := 42) (show decode mX3_addPin.2.1 36 = .ok (.if_icmp .gt 6, 3) by decide +kernel) (by decide) ⟨hg, (by unfold inI; decide)⟩ (fun hc => ?_) (fun hc => ?_)
      · replace hR := hR.1 hc
        refine x_iinc (pc := 42) (ls' := [some (.inr (.inr 1)), some (.inl x1), some (.inl x2), some (.inl x3), some (.inl (x4 + 1))]) (show decode mX3_addPin.2.1 42 = .ok (.iinc 4 1, 3) by decide +kernel) (by decide) rfl rfl ?_
        refine x_goto (pc := 45) (tgt := 3) (show decode mX3_addPin.2.1 45 = .ok (.goto (-42), 3) by decide +kernel) (by decide) ?_
        exact hR
      · replace hR := hR.2 hc
        refine x_bipush (pc := 39) (n := (-3)) (show decode mX3_addPin.2.1 39 = .ok (.bipush (-3), 2) by decide +kernel) rfl ?_
        exact x_iret (pc := 41) rfl (show decode mX3_addPin.2.1 41 = .ok (.ireturn, 1) by decide +kernel) ⟨_, rfl, hR⟩
set_option maxRecDepth 4000 in
theorem sg_X3_fillAtFirst_0 {d : Nat} {x1 x2 : Int} {h : xH} {Q : Int → xH → Prop}
    (hR : (inI (h 1 1) ∧ 0 ≤ x1 ∧ x1 ≤ 31) ∧ (inI x2) ∧ (x2 = 0 → (0 ≤ x1 ∧ x1 ≤ 31) ∧ Q (xandI ((h 1 1) / 2 ^ (Int.toNat x1)) 1) (xu h 1 1 (xandI (h 1 1) (xxorI (1 * 2 ^ (Int.toNat x1)) (-1))))) ∧ (¬ x2 = 0 → (0 ≤ x1 ∧ x1 ≤ 31) ∧ Q (xandI ((h 1 1) / 2 ^ (Int.toNat x1)) 1) (xu h 1 1 (xorI (h 1 1) (1 * 2 ^ (Int.toNat x1)))))) :
    gI wdC d mX3_fillAtFirst 0 [some (.inr (.inr 1)), some (.inl x1), some (.inl x2), none] h Q := by
  unfold gI
  refine x_aload_n (pc := 0) (show decode mX3_fillAtFirst.2.1 0 = .ok (.aload_n 0, 1) by decide +kernel) rfl rfl ?_
  refine x_getI (pc := 1) (ki := 1) f3_15 rfl rfl (by decide) rfl (show decode mX3_fillAtFirst.2.1 1 = .ok (.getfield 15, 3) by decide +kernel) ?_
  refine x_iload_n (pc := 4) (show decode mX3_fillAtFirst.2.1 4 = .ok (.iload_n 1, 1) by decide +kernel) rfl rfl ?_
  obtain ⟨hg, hR⟩ := hR
  refine x_ishr (pc := 5) (show decode mX3_fillAtFirst.2.1 5 = .ok (.ishr, 1) by decide +kernel) hg ?_
  refine x_iconst (pc := 6) (n := 1) (show decode mX3_fillAtFirst.2.1 6 = .ok (.iconst 1, 1) by decide +kernel) ?_
  refine x_iand (pc := 7) (show decode mX3_fillAtFirst.2.1 7 = .ok (.iand, 1) by decide +kernel) ?_
  refine x_istore_n (pc := 8) (ls' := [some (.inr (.inr 1)), some (.inl x1), some (.inl x2), some (.inl (xandI ((h 1 1) / 2 ^ (Int.toNat x1)) 1))]) (show decode mX3_fillAtFirst.2.1 8 = .ok (.istore_n 3, 1) by decide +kernel) rfl (by decide) rfl ?_
  refine x_iload_n (pc := 9) (show decode mX3_fillAtFirst.2.1 9 = .ok (.iload_n 2, 1) by decide +kernel) rfl rfl ?_
  obtain ⟨hg, hR⟩ := hR
  refine x_if_eq (pc := 10) (tgt := 28) (show decode mX3_fillAtFirst.2.1 10 = .ok (.ifCond .eq 18, 3) by decide +kernel) (by decide) hg (fun hc => ?_) (fun hc => ?_)
  · replace hR := hR.1 hc
    refine x_aload_n (pc := 28) (show decode mX3_fillAtFirst.2.1 28 = .ok (.aload_n 0, 1) by decide +kernel) rfl rfl ?_
    refine x_dup (pc := 29) (show decode mX3_fillAtFirst.2.1 29 = .ok (.dup, 1) by decide +kernel) rfl ?_
    refine x_getI (pc := 30) (ki := 1) f3_15 rfl rfl (by decide) rfl (show decode mX3_fillAtFirst.2.1 30 = .ok (.getfield 15, 3) by decide +kernel) ?_
    refine x_iconst (pc := 33) (n := 1) (show decode mX3_fillAtFirst.2.1 33 = .ok (.iconst 1, 1) by decide +kernel) ?_
    refine x_iload_n (pc := 34) (show decode mX3_fillAtFirst.2.1 34 = .ok (.iload_n 1, 1) by decide +kernel) rfl rfl ?_
    obtain ⟨hg, hR⟩ := hR
    refine x_ishl (pc := 35) (show decode mX3_fillAtFirst.2.1 35 = .ok (.ishl, 1) by decide +kernel) hg ?_
    refine x_iconst (pc := 36) (n := (-1)) (show decode mX3_fillAtFirst.2.1 36 = .ok (.iconst (-1), 1) by decide +kernel) ?_
    refine x_ixor (pc := 37) (show decode mX3_fillAtFirst.2.1 37 = .ok (.ixor, 1) by decide +kernel) ?_
    refine x_iand (pc := 38) (show decode mX3_fillAtFirst.2.1 38 = .ok (.iand, 1) by decide +kernel) ?_
    refine x_putI (pc := 39) (ki := 1) f3_15 fp3_1 rfl rfl rfl (show decode mX3_fillAtFirst.2.1 39 = .ok (.putfield 15, 3) by decide +kernel) ?_
    refine x_iload_n (pc := 42) (show decode mX3_fillAtFirst.2.1 42 = .ok (.iload_n 3, 1) by decide +kernel) rfl rfl ?_
    exact x_iret (pc := 43) rfl (show decode mX3_fillAtFirst.2.1 43 = .ok (.ireturn, 1) by decide +kernel) ⟨_, rfl, hR⟩
  · replace hR := hR.2 hc
    refine x_aload_n (pc := 13) (show decode mX3_fillAtFirst.2.1 13 = .ok (.aload_n 0, 1) by decide +kernel) rfl rfl ?_
    refine x_dup (pc := 14) (show decode mX3_fillAtFirst.2.1 14 = .ok (.dup, 1) by decide +kernel) rfl ?_
    refine x_getI (pc := 15) (ki := 1) f3_15 rfl rfl (by decide) rfl (show decode mX3_fillAtFirst.2.1 15 = .ok (.getfield 15, 3) by decide +kernel) ?_
    refine x_iconst (pc := 18) (n := 1) (show decode mX3_fillAtFirst.2.1 18 = .ok (.iconst 1, 1) by decide +kernel) ?_
    refine x_iload_n (pc := 19) (show decode mX3_fillAtFirst.2.1 19 = .ok (.iload_n 1, 1) by decide +kernel) rfl rfl ?_
    obtain ⟨hg, hR⟩ := hR
    refine x_ishl (pc := 20) (show decode mX3_fillAtFirst.2.1 20 = .ok (.ishl, 1) by decide +kernel) hg ?_
    refine x_ior (pc := 21) (show decode mX3_fillAtFirst.2.1 21 = .ok (.ior, 1) by decide +kernel) ?_
    refine x_putI (pc := 22) (ki := 1) f3_15 fp3_1 rfl rfl rfl (show decode mX3_fillAtFirst.2.1 22 = .ok (.putfield 15, 3) by decide +kernel) ?_
    refine x_goto (pc := 25) (tgt := 42) (show decode mX3_fillAtFirst.2.1 25 = .ok (.goto 17, 3) by decide +kernel) (by decide) ?_
    refine x_iload_n (pc := 42) (show decode mX3_fillAtFirst.2.1 42 = .ok (.iload_n 3, 1) by decide +kernel) rfl rfl ?_
    exact x_iret (pc := 43) rfl (show decode mX3_fillAtFirst.2.1 43 = .ok (.ireturn, 1) by decide +kernel) ⟨_, rfl, hR⟩
set_option maxRecDepth 4000 in
theorem sg_X3_turnNumber_0 {d : Nat} {x0 x1 : Int} {h : xH} {Q : Int → xH → Prop}
    (hR : Q (xorI (x1 * 2 ^ (Int.toNat 4)) x0) h) :
    gI wdC d mX3_turnNumber 0 [some (.inl x0), some (.inl x1)] h Q := by
  unfold gI
  refine x_iload_n (pc := 0) (show decode mX3_turnNumber.2.1 0 = .ok (.iload_n 1, 1) by decide +kernel) rfl rfl ?_
  refine x_iconst (pc := 1) (n := 4) (show decode mX3_turnNumber.2.1 1 = .ok (.iconst 4, 1) by decide +kernel) ?_
  refine x_ishl (pc := 2) (show decode mX3_turnNumber.2.1 2 = .ok (.ishl, 1) by decide +kernel) (by decide) ?_
  refine x_iload_n (pc := 3) (show decode mX3_turnNumber.2.1 3 = .ok (.iload_n 0, 1) by decide +kernel) rfl rfl ?_
  refine x_ior (pc := 4) (show decode mX3_turnNumber.2.1 4 = .ok (.ior, 1) by decide +kernel) ?_
  exact x_iret (pc := 5) rfl (show decode mX3_turnNumber.2.1 5 = .ok (.ireturn, 1) by decide +kernel) ⟨_, rfl, hR⟩
set_option maxRecDepth 4000 in
theorem sg_X3_slotOfTurn_0 {d : Nat} {x0 : Int} {h : xH} {Q : Int → xH → Prop}
    (hR : Q (xandI x0 15) h) :
    gI wdC d mX3_slotOfTurn 0 [some (.inl x0)] h Q := by
  unfold gI
  refine x_iload_n (pc := 0) (show decode mX3_slotOfTurn.2.1 0 = .ok (.iload_n 0, 1) by decide +kernel) rfl rfl ?_
  refine x_bipush (pc := 1) (n := 15) (show decode mX3_slotOfTurn.2.1 1 = .ok (.bipush 15, 2) by decide +kernel) rfl ?_
  refine x_iand (pc := 3) (show decode mX3_slotOfTurn.2.1 3 = .ok (.iand, 1) by decide +kernel) ?_
  exact x_iret (pc := 4) rfl (show decode mX3_slotOfTurn.2.1 4 = .ok (.ireturn, 1) by decide +kernel) ⟨_, rfl, hR⟩
set_option maxRecDepth 4000 in
theorem sg_X3_rowOfTurn_0 {d : Nat} {x0 : Int} {h : xH} {Q : Int → xH → Prop}
    (hR : inI x0 ∧ Q (x0 / 2 ^ (Int.toNat 4)) h) :
    gI wdC d mX3_rowOfTurn 0 [some (.inl x0)] h Q := by
  unfold gI
  refine x_iload_n (pc := 0) (show decode mX3_rowOfTurn.2.1 0 = .ok (.iload_n 0, 1) by decide +kernel) rfl rfl ?_
  refine x_iconst (pc := 1) (n := 4) (show decode mX3_rowOfTurn.2.1 1 = .ok (.iconst 4, 1) by decide +kernel) ?_
  obtain ⟨hg, hR⟩ := hR
  refine x_ishr (pc := 2) (show decode mX3_rowOfTurn.2.1 2 = .ok (.ishr, 1) by decide +kernel) ⟨hg, by decide⟩ ?_
  exact x_iret (pc := 3) rfl (show decode mX3_rowOfTurn.2.1 3 = .ok (.ireturn, 1) by decide +kernel) ⟨_, rfl, hR⟩
set_option maxRecDepth 4000 in
theorem sg_X3_turnAt_0 {d : Nat} {x1 x2 : Int} {h : xH} {Q : Int → xH → Prop} (hd : 1 ≤ d)
    (hR : cI wdC (d - 1) mX3_turnNumber [.inl x1, .inl x2] h (fun r2 h1 => cI wdC (d - 1) mX3_placeOfTurn [.inr (.inr 1), .inl r2] h1 (fun r4 h3 => (inI r4) ∧ (r4 < 0 → (inI (h3 1 6)) ∧ ((h3 1 6) < 10 → (0 ≤ (h3 1 6) ∧ (h3 1 6) < 10) ∧ cV wdC (d - 1) mX3_sortTurns [.inr (.inr 1)] (xu (xu h3 5 (h3 1 6) r2) 1 6 ((h3 1 6) + 1)) (fun h5 => Q (h5 1 6) h5)) ∧ (10 ≤ (h3 1 6) → Q (-4) h3)) ∧ (0 ≤ r4 → cV wdC (d - 1) mX3_removeTurn [.inr (.inr 1), .inl r4] h3 (fun h6 => Q (h6 1 6) h6))))) :
    gI wdC d mX3_turnAt 0 [some (.inr (.inr 1)), some (.inl x1), some (.inl x2), none, none] h Q := by
  unfold gI
  refine x_iload_n (pc := 0) (show decode mX3_turnAt.2.1 0 = .ok (.iload_n 1, 1) by decide +kernel) rfl rfl ?_
  refine x_iload_n (pc := 1) (show decode mX3_turnAt.2.1 1 = .ok (.iload_n 2, 1) by decide +kernel) rfl rfl ?_
  refine x_callS (pc := 2) (As := [.inl x1, .inl x2]) (rest := []) (lk3_49 rfl) sm_X3_turnNumber (Nat.le_of_ble_eq_true rfl) (Nat.le_of_ble_eq_true rfl) (show decode mX3_turnAt.2.1 2 = .ok (.invokestatic 49, 3) by decide +kernel) hd hR (fun r9 h1 hq => ?_)
  obtain ⟨r2, rfl, hR⟩ := hq
  show xG _ _ _ 5 _ [.inl r2] _ _
  refine x_istore_n (pc := 5) (ls' := [some (.inr (.inr 1)), some (.inl x1), some (.inl x2), some (.inl r2), none]) (show decode mX3_turnAt.2.1 5 = .ok (.istore_n 3, 1) by decide +kernel) rfl (by decide) rfl ?_
  refine x_aload_n (pc := 6) (show decode mX3_turnAt.2.1 6 = .ok (.aload_n 0, 1) by decide +kernel) rfl rfl ?_
  refine x_iload_n (pc := 7) (show decode mX3_turnAt.2.1 7 = .ok (.iload_n 3, 1) by decide +kernel) rfl rfl ?_
  refine x_callV (pc := 8) (As := [.inl r2]) (rest := []) (lk3_53 rfl) im_X3_placeOfTurn sl_X3_placeOfTurn rfl rfl rfl (Nat.le_of_ble_eq_true rfl) (Nat.le_of_ble_eq_true rfl) (show decode mX3_turnAt.2.1 8 = .ok (.invokevirtual 53, 3) by decide +kernel) hd hR (fun r9 h3 hq => ?_)
  obtain ⟨r4, rfl, hR⟩ := hq
  show xG _ _ _ 11 _ [.inl r4] _ _
  refine x_istore (pc := 11) (ls' := [some (.inr (.inr 1)), some (.inl x1), some (.inl x2), some (.inl r2), some (.inl r4)]) (show decode mX3_turnAt.2.1 11 = .ok (.istore 4, 2) by decide +kernel) (by decide) rfl ?_
  refine x_iload (pc := 13) (show decode mX3_turnAt.2.1 13 = .ok (.iload 4, 2) by decide +kernel) rfl ?_
  obtain ⟨hg, hR⟩ := hR
  refine x_if_lt (pc := 15) (tgt := 27) (show decode mX3_turnAt.2.1 15 = .ok (.ifCond .lt 12, 3) by decide +kernel) (by decide) hg (fun hc => ?_) (fun hc => ?_)
  · replace hR := hR.1 hc
    refine x_aload_n (pc := 27) (show decode mX3_turnAt.2.1 27 = .ok (.aload_n 0, 1) by decide +kernel) rfl rfl ?_
    refine x_getI (pc := 28) (ki := 6) f3_31 rfl rfl (by decide) rfl (show decode mX3_turnAt.2.1 28 = .ok (.getfield 31, 3) by decide +kernel) ?_
    refine x_bipush (pc := 31) (n := 10) (show decode mX3_turnAt.2.1 31 = .ok (.bipush 10, 2) by decide +kernel) rfl ?_
    obtain ⟨hg, hR⟩ := hR
    refine x_icmp_lt (pc := 33) (tgt := 39) (show decode mX3_turnAt.2.1 33 = .ok (.if_icmp .lt 6, 3) by decide +kernel) (by decide) ⟨hg, (by unfold inI; decide)⟩ (fun hc => ?_) (fun hc => ?_)
    · replace hR := hR.1 hc
      refine x_aload_n (pc := 39) (show decode mX3_turnAt.2.1 39 = .ok (.aload_n 0, 1) by decide +kernel) rfl rfl ?_
      refine x_getR (pc := 40) f3_34 rfl rfl (show decode mX3_turnAt.2.1 40 = .ok (.getfield 34, 3) by decide +kernel) ?_
      refine x_aload_n (pc := 43) (show decode mX3_turnAt.2.1 43 = .ok (.aload_n 0, 1) by decide +kernel) rfl rfl ?_
      refine x_getI (pc := 44) (ki := 6) f3_31 rfl rfl (by decide) rfl (show decode mX3_turnAt.2.1 44 = .ok (.getfield 31, 3) by decide +kernel) ?_
      refine x_iload_n (pc := 47) (show decode mX3_turnAt.2.1 47 = .ok (.iload_n 3, 1) by decide +kernel) rfl rfl ?_
      obtain ⟨hg, hR⟩ := hR
      refine x_iast (pc := 48) rfl (by decide) hg (show decode mX3_turnAt.2.1 48 = .ok (.iastore, 1) by decide +kernel) ?_
      refine x_aload_n (pc := 49) (show decode mX3_turnAt.2.1 49 = .ok (.aload_n 0, 1) by decide +kernel) rfl rfl ?_
      refine x_dup (pc := 50) (show decode mX3_turnAt.2.1 50 = .ok (.dup, 1) by decide +kernel) rfl ?_
      refine x_getI (pc := 51) (ki := 6) f3_31 rfl rfl (by decide) rfl (show decode mX3_turnAt.2.1 51 = .ok (.getfield 31, 3) by decide +kernel) ?_
      refine x_iconst (pc := 54) (n := 1) (show decode mX3_turnAt.2.1 54 = .ok (.iconst 1, 1) by decide +kernel) ?_
      refine x_iadd (pc := 55) (show decode mX3_turnAt.2.1 55 = .ok (.iadd, 1) by decide +kernel) ?_
      refine x_putI (pc := 56) (ki := 6) f3_31 fp3_6 rfl rfl rfl (show decode mX3_turnAt.2.1 56 = .ok (.putfield 31, 3) by decide +kernel) ?_
      refine x_aload_n (pc := 59) (show decode mX3_turnAt.2.1 59 = .ok (.aload_n 0, 1) by decide +kernel) rfl rfl ?_
      refine x_callV (pc := 60) (As := []) (rest := []) (lk3_60 rfl) im_X3_sortTurns sl_X3_sortTurns rfl rfl rfl (Nat.le_of_ble_eq_true rfl) (Nat.le_of_ble_eq_true rfl) (show decode mX3_turnAt.2.1 60 = .ok (.invokevirtual 60, 3) by decide +kernel) hd hR (fun r9 h5 hq => ?_)
      obtain ⟨rfl, hR⟩ := hq
      show xG _ _ _ 63 _ [] _ _
      refine x_aload_n (pc := 63) (show decode mX3_turnAt.2.1 63 = .ok (.aload_n 0, 1) by decide +kernel) rfl rfl ?_
      refine x_getI (pc := 64) (ki := 6) f3_31 rfl rfl (by decide) rfl (show decode mX3_turnAt.2.1 64 = .ok (.getfield 31, 3) by decide +kernel) ?_
      exact x_iret (pc := 67) rfl (show decode mX3_turnAt.2.1 67 = .ok (.ireturn, 1) by decide +kernel) ⟨_, rfl, hR⟩
    · replace hR := hR.2 hc
      refine x_bipush (pc := 36) (n := (-4)) (show decode mX3_turnAt.2.1 36 = .ok (.bipush (-4), 2) by decide +kernel) rfl ?_
      exact x_iret (pc := 38) rfl (show decode mX3_turnAt.2.1 38 = .ok (.ireturn, 1) by decide +kernel) ⟨_, rfl, hR⟩
  · replace hR := hR.2 hc
    refine x_aload_n (pc := 18) (show decode mX3_turnAt.2.1 18 = .ok (.aload_n 0, 1) by decide +kernel) rfl rfl ?_
    refine x_iload (pc := 19) (show decode mX3_turnAt.2.1 19 = .ok (.iload 4, 2) by decide +kernel) rfl ?_
    refine x_callV (pc := 21) (As := [.inl r4]) (rest := []) (lk3_56 rfl) im_X3_removeTurn sl_X3_removeTurn rfl rfl rfl (Nat.le_of_ble_eq_true rfl) (Nat.le_of_ble_eq_true rfl) (show decode mX3_turnAt.2.1 21 = .ok (.invokevirtual 56, 3) by decide +kernel) hd hR (fun r9 h6 hq => ?_)
    obtain ⟨rfl, hR⟩ := hq
    show xG _ _ _ 24 _ [] _ _
    refine x_goto (pc := 24) (tgt := 63) (show decode mX3_turnAt.2.1 24 = .ok (.goto 39, 3) by decide +kernel) (by decide) ?_
    refine x_aload_n (pc := 63) (show decode mX3_turnAt.2.1 63 = .ok (.aload_n 0, 1) by decide +kernel) rfl rfl ?_
    refine x_getI (pc := 64) (ki := 6) f3_31 rfl rfl (by decide) rfl (show decode mX3_turnAt.2.1 64 = .ok (.getfield 31, 3) by decide +kernel) ?_
    exact x_iret (pc := 67) rfl (show decode mX3_turnAt.2.1 67 = .ok (.ireturn, 1) by decide +kernel) ⟨_, rfl, hR⟩
set_option maxRecDepth 4000 in
theorem sg_X3_placeOfTurn_0 {d : Nat} {x1 : Int} {h : xH} {Q : Int → xH → Prop}
    (hR : gI wdC d mX3_placeOfTurn 2 [some (.inr (.inr 1)), some (.inl x1), some (.inl 0)] h Q) :
    gI wdC d mX3_placeOfTurn 0 [some (.inr (.inr 1)), some (.inl x1), none] h Q := by
  unfold gI
  refine x_iconst (pc := 0) (n := 0) (show decode mX3_placeOfTurn.2.1 0 = .ok (.iconst 0, 1) by decide +kernel) ?_
  refine x_istore_n (pc := 1) (ls' := [some (.inr (.inr 1)), some (.inl x1), some (.inl 0)]) (show decode mX3_placeOfTurn.2.1 1 = .ok (.istore_n 2, 1) by decide +kernel) rfl (by decide) rfl ?_
  exact hR
set_option maxRecDepth 4000 in
theorem sg_X3_placeOfTurn_2 {d : Nat} {x1 x2 : Int} {h : xH} {Q : Int → xH → Prop}
    (hR : (inI x2 ∧ inI (h 1 6)) ∧ ((h 1 6) ≤ x2 → Q (-1) h) ∧ (x2 < (h 1 6) → (0 ≤ x2 ∧ x2 < 10) ∧ (inI (h 5 x2) ∧ inI x1) ∧ (¬ (h 5 x2) = x1 → gI wdC d mX3_placeOfTurn 2 [some (.inr (.inr 1)), some (.inl x1), some (.inl (x2 + 1))] h Q) ∧ ((h 5 x2) = x1 → Q x2 h))) :
    gI wdC d mX3_placeOfTurn 2 [some (.inr (.inr 1)), some (.inl x1), some (.inl x2)] h Q := by
  unfold gI
  refine x_iload_n (pc := 2) (show decode mX3_placeOfTurn.2.1 2 = .ok (.iload_n 2, 1) by decide +kernel) rfl rfl ?_
  refine x_aload_n (pc := 3) (show decode mX3_placeOfTurn.2.1 3 = .ok (.aload_n 0, 1) by decide +kernel) rfl rfl ?_
  refine x_getI (pc := 4) (ki := 6) f3_31 rfl rfl (by decide) rfl (show decode mX3_placeOfTurn.2.1 4 = .ok (.getfield 31, 3) by decide +kernel) ?_
  obtain ⟨hg, hR⟩ := hR
  refine x_icmp_ge (pc := 7) (tgt := 28) (show decode mX3_placeOfTurn.2.1 7 = .ok (.if_icmp .ge 21, 3) by decide +kernel) (by decide) ⟨hg.1, hg.2⟩ (fun hc => ?_) (fun hc => ?_)
  · replace hR := hR.1 hc
    refine x_iconst (pc := 28) (n := (-1)) (show decode mX3_placeOfTurn.2.1 28 = .ok (.iconst (-1), 1) by decide +kernel) ?_
    exact x_iret (pc := 29) rfl (show decode mX3_placeOfTurn.2.1 29 = .ok (.ireturn, 1) by decide +kernel) ⟨_, rfl, hR⟩
  · replace hR := hR.2 hc
    refine x_aload_n (pc := 10) (show decode mX3_placeOfTurn.2.1 10 = .ok (.aload_n 0, 1) by decide +kernel) rfl rfl ?_
    refine x_getR (pc := 11) f3_34 rfl rfl (show decode mX3_placeOfTurn.2.1 11 = .ok (.getfield 34, 3) by decide +kernel) ?_
    refine x_iload_n (pc := 14) (show decode mX3_placeOfTurn.2.1 14 = .ok (.iload_n 2, 1) by decide +kernel) rfl rfl ?_
    obtain ⟨hg, hR⟩ := hR
    refine x_iald (pc := 15) rfl (by decide) hg (show decode mX3_placeOfTurn.2.1 15 = .ok (.iaload, 1) by decide +kernel) ?_
    refine x_iload_n (pc := 16) (show decode mX3_placeOfTurn.2.1 16 = .ok (.iload_n 1, 1) by decide +kernel) rfl rfl ?_
    obtain ⟨hg, hR⟩ := hR
    refine x_icmp_ne (pc := 17) (tgt := 22) (show decode mX3_placeOfTurn.2.1 17 = .ok (.if_icmp .ne 5, 3) by decide +kernel) (by decide) ⟨hg.1, hg.2⟩ (fun hc => ?_) (fun hc => ?_)
    · replace hR := hR.1 hc
      refine x_iinc (pc := 22) (ls' := [some (.inr (.inr 1)), some (.inl x1), some (.inl (x2 + 1))]) (show decode mX3_placeOfTurn.2.1 22 = .ok (.iinc 2 1, 3) by decide +kernel) (by decide) rfl rfl ?_
      refine x_goto (pc := 25) (tgt := 2) (show decode mX3_placeOfTurn.2.1 25 = .ok (.goto (-23), 3) by decide +kernel) (by decide) ?_
      exact hR
    · replace hR := hR.2 hc
      refine x_iload_n (pc := 20) (show decode mX3_placeOfTurn.2.1 20 = .ok (.iload_n 2, 1) by decide +kernel) rfl rfl ?_
      exact x_iret (pc := 21) rfl (show decode mX3_placeOfTurn.2.1 21 = .ok (.ireturn, 1) by decide +kernel) ⟨_, rfl, hR⟩
set_option maxRecDepth 4000 in
theorem sg_X3_removeTurn_0 {d : Nat} {x1 : Int} {h : xH} {Q : xH → Prop}
    (hR : gV wdC d mX3_removeTurn 2 [some (.inr (.inr 1)), none, some (.inl x1)] h Q) :
    gV wdC d mX3_removeTurn 0 [some (.inr (.inr 1)), some (.inl x1), none] h Q := by
  unfold gV
  refine x_iload_n (pc := 0) (show decode mX3_removeTurn.2.1 0 = .ok (.iload_n 1, 1) by decide +kernel) rfl rfl ?_
  refine x_istore_n (pc := 1) (ls' := [some (.inr (.inr 1)), some (.inl x1), some (.inl x1)]) (show decode mX3_removeTurn.2.1 1 = .ok (.istore_n 2, 1) by decide +kernel) rfl (by decide) rfl ?_
  exact x_weak (xle_get (by repeat' constructor)) hR
set_option maxRecDepth 4000 in
theorem sg_X3_removeTurn_2 {d : Nat} {x2 : Int} {h : xH} {Q : xH → Prop}
    (hR : (inI x2 ∧ inI ((h 1 6) - 1)) ∧ (((h 1 6) - 1) ≤ x2 → Q (xu h 1 6 ((h 1 6) - 1))) ∧ (x2 < ((h 1 6) - 1) → (0 ≤ (x2 + 1) ∧ (x2 + 1) < 10) ∧ (0 ≤ x2 ∧ x2 < 10) ∧ gV wdC d mX3_removeTurn 2 [some (.inr (.inr 1)), none, some (.inl (x2 + 1))] (xu h 5 x2 (h 5 (x2 + 1))) Q)) :
    gV wdC d mX3_removeTurn 2 [some (.inr (.inr 1)), none, some (.inl x2)] h Q := by
  unfold gV
  refine x_iload_n (pc := 2) (show decode mX3_removeTurn.2.1 2 = .ok (.iload_n 2, 1) by decide +kernel) rfl rfl ?_
  refine x_aload_n (pc := 3) (show decode mX3_removeTurn.2.1 3 = .ok (.aload_n 0, 1) by decide +kernel) rfl rfl ?_
  refine x_getI (pc := 4) (ki := 6) f3_31 rfl rfl (by decide) rfl (show decode mX3_removeTurn.2.1 4 = .ok (.getfield 31, 3) by decide +kernel) ?_
  refine x_iconst (pc := 7) (n := 1) (show decode mX3_removeTurn.2.1 7 = .ok (.iconst 1, 1) by decide +kernel) ?_
  refine x_isub (pc := 8) (show decode mX3_removeTurn.2.1 8 = .ok (.isub, 1) by decide +kernel) ?_
  obtain ⟨hg, hR⟩ := hR
  refine x_icmp_ge (pc := 9) (tgt := 32) (show decode mX3_removeTurn.2.1 9 = .ok (.if_icmp .ge 23, 3) by decide +kernel) (by decide) ⟨hg.1, hg.2⟩ (fun hc => ?_) (fun hc => ?_)
  · replace hR := hR.1 hc
    refine x_aload_n (pc := 32) (show decode mX3_removeTurn.2.1 32 = .ok (.aload_n 0, 1) by decide +kernel) rfl rfl ?_
    refine x_dup (pc := 33) (show decode mX3_removeTurn.2.1 33 = .ok (.dup, 1) by decide +kernel) rfl ?_
    refine x_getI (pc := 34) (ki := 6) f3_31 rfl rfl (by decide) rfl (show decode mX3_removeTurn.2.1 34 = .ok (.getfield 31, 3) by decide +kernel) ?_
    refine x_iconst (pc := 37) (n := 1) (show decode mX3_removeTurn.2.1 37 = .ok (.iconst 1, 1) by decide +kernel) ?_
    refine x_isub (pc := 38) (show decode mX3_removeTurn.2.1 38 = .ok (.isub, 1) by decide +kernel) ?_
    refine x_putI (pc := 39) (ki := 6) f3_31 fp3_6 rfl rfl rfl (show decode mX3_removeTurn.2.1 39 = .ok (.putfield 31, 3) by decide +kernel) ?_
    exact x_vret (pc := 42) rfl (show decode mX3_removeTurn.2.1 42 = .ok (.return_, 1) by decide +kernel) ⟨rfl, hR⟩
  · replace hR := hR.2 hc
    refine x_aload_n (pc := 12) (show decode mX3_removeTurn.2.1 12 = .ok (.aload_n 0, 1) by decide +kernel) rfl rfl ?_
    refine x_getR (pc := 13) f3_34 rfl rfl (show decode mX3_removeTurn.2.1 13 = .ok (.getfield 34, 3) by decide +kernel) ?_
    refine x_iload_n (pc := 16) (show decode mX3_removeTurn.2.1 16 = .ok (.iload_n 2, 1) by decide +kernel) rfl rfl ?_
    refine x_aload_n (pc := 17) (show decode mX3_removeTurn.2.1 17 = .ok (.aload_n 0, 1) by decide +kernel) rfl rfl ?_
    refine x_getR (pc := 18) f3_34 rfl rfl (show decode mX3_removeTurn.2.1 18 = .ok (.getfield 34, 3) by decide +kernel) ?_
    refine x_iload_n (pc := 21) (show decode mX3_removeTurn.2.1 21 = .ok (.iload_n 2, 1) by decide +kernel) rfl rfl ?_
    refine x_iconst (pc := 22) (n := 1) (show decode mX3_removeTurn.2.1 22 = .ok (.iconst 1, 1) by decide +kernel) ?_
    refine x_iadd (pc := 23) (show decode mX3_removeTurn.2.1 23 = .ok (.iadd, 1) by decide +kernel) ?_
    obtain ⟨hg, hR⟩ := hR
    refine x_iald (pc := 24) rfl (by decide) hg (show decode mX3_removeTurn.2.1 24 = .ok (.iaload, 1) by decide +kernel) ?_
    obtain ⟨hg, hR⟩ := hR
    refine x_iast (pc := 25) rfl (by decide) hg (show decode mX3_removeTurn.2.1 25 = .ok (.iastore, 1) by decide +kernel) ?_
    refine x_iinc (pc := 26) (ls' := [some (.inr (.inr 1)), none, some (.inl (x2 + 1))]) (show decode mX3_removeTurn.2.1 26 = .ok (.iinc 2 1, 3) by decide +kernel) (by decide) rfl rfl ?_
    refine x_goto (pc := 29) (tgt := 2) (show decode mX3_removeTurn.2.1 29 = .ok (.goto (-27), 3) by decide +kernel) (by decide) ?_
    exact hR
set_option maxRecDepth 4000 in
theorem sg_X3_sortTurns_0 {d : Nat} {h : xH} {Q : xH → Prop}
    (hR : gV wdC d mX3_sortTurns 2 [some (.inr (.inr 1)), some (.inl 1), none, none] h Q) :
    gV wdC d mX3_sortTurns 0 [some (.inr (.inr 1)), none, none, none] h Q := by
  unfold gV
  refine x_iconst (pc := 0) (n := 1) (show decode mX3_sortTurns.2.1 0 = .ok (.iconst 1, 1) by decide +kernel) ?_
  refine x_istore_n (pc := 1) (ls' := [some (.inr (.inr 1)), some (.inl 1), none, none]) (show decode mX3_sortTurns.2.1 1 = .ok (.istore_n 1, 1) by decide +kernel) rfl (by decide) rfl ?_
  exact hR
set_option maxRecDepth 4000 in
theorem sg_X3_sortTurns_2 {d : Nat} {x1 : Int} {h : xH} {Q : xH → Prop}
    (hR : (inI x1 ∧ inI (h 1 6)) ∧ ((h 1 6) ≤ x1 → Q h) ∧ (x1 < (h 1 6) → (0 ≤ x1 ∧ x1 < 10) ∧ gV wdC d mX3_sortTurns 19 [some (.inr (.inr 1)), some (.inl x1), some (.inl (h 5 x1)), some (.inl x1)] h Q)) :
    gV wdC d mX3_sortTurns 2 [some (.inr (.inr 1)), some (.inl x1), none, none] h Q := by
  unfold gV
  refine x_iload_n (pc := 2) (show decode mX3_sortTurns.2.1 2 = .ok (.iload_n 1, 1) by decide +kernel) rfl rfl ?_
  refine x_aload_n (pc := 3) (show decode mX3_sortTurns.2.1 3 = .ok (.aload_n 0, 1) by decide +kernel) rfl rfl ?_
  refine x_getI (pc := 4) (ki := 6) f3_31 rfl rfl (by decide) rfl (show decode mX3_sortTurns.2.1 4 = .ok (.getfield 31, 3) by decide +kernel) ?_
  obtain ⟨hg, hR⟩ := hR
  refine x_icmp_ge (pc := 7) (tgt := 68) (show decode mX3_sortTurns.2.1 7 = .ok (.if_icmp .ge 61, 3) by decide +kernel) (by decide) ⟨hg.1, hg.2⟩ (fun hc => ?_) (fun hc => ?_)
  · replace hR := hR.1 hc
    exact x_vret (pc := 68) rfl (show decode mX3_sortTurns.2.1 68 = .ok (.return_, 1) by decide +kernel) ⟨rfl, hR⟩
  · replace hR := hR.2 hc
    refine x_aload_n (pc := 10) (show decode mX3_sortTurns.2.1 10 = .ok (.aload_n 0, 1) by decide +kernel) rfl rfl ?_
    refine x_getR (pc := 11) f3_34 rfl rfl (show decode mX3_sortTurns.2.1 11 = .ok (.getfield 34, 3) by decide +kernel) ?_
    refine x_iload_n (pc := 14) (show decode mX3_sortTurns.2.1 14 = .ok (.iload_n 1, 1) by decide +kernel) rfl rfl ?_
    obtain ⟨hg, hR⟩ := hR
    refine x_iald (pc := 15) rfl (by decide) hg (show decode mX3_sortTurns.2.1 15 = .ok (.iaload, 1) by decide +kernel) ?_
    refine x_istore_n (pc := 16) (ls' := [some (.inr (.inr 1)), some (.inl x1), some (.inl (h 5 x1)), none]) (show decode mX3_sortTurns.2.1 16 = .ok (.istore_n 2, 1) by decide +kernel) rfl (by decide) rfl ?_
    refine x_iload_n (pc := 17) (show decode mX3_sortTurns.2.1 17 = .ok (.iload_n 1, 1) by decide +kernel) rfl rfl ?_
    refine x_istore_n (pc := 18) (ls' := [some (.inr (.inr 1)), some (.inl x1), some (.inl (h 5 x1)), some (.inl x1)]) (show decode mX3_sortTurns.2.1 18 = .ok (.istore_n 3, 1) by decide +kernel) rfl (by decide) rfl ?_
    exact hR
set_option maxRecDepth 4000 in
theorem sg_X3_sortTurns_19 {d : Nat} {x1 x2 x3 : Int} {h : xH} {Q : xH → Prop}
    (hR : (inI x3) ∧ (x3 ≤ 0 → (0 ≤ x3 ∧ x3 < 10) ∧ gV wdC d mX3_sortTurns 2 [some (.inr (.inr 1)), some (.inl (x1 + 1)), none, none] (xu h 5 x3 x2) Q) ∧ (0 < x3 → (0 ≤ (x3 - 1) ∧ (x3 - 1) < 10) ∧ (inI (h 5 (x3 - 1)) ∧ inI x2) ∧ ((h 5 (x3 - 1)) ≤ x2 → (0 ≤ x3 ∧ x3 < 10) ∧ gV wdC d mX3_sortTurns 2 [some (.inr (.inr 1)), some (.inl (x1 + 1)), none, none] (xu h 5 x3 x2) Q) ∧ (x2 < (h 5 (x3 - 1)) → (0 ≤ (x3 - 1) ∧ (x3 - 1) < 10) ∧ (0 ≤ x3 ∧ x3 < 10) ∧ gV wdC d mX3_sortTurns 19 [some (.inr (.inr 1)), some (.inl x1), some (.inl x2), some (.inl (x3 + (-1)))] (xu h 5 x3 (h 5 (x3 - 1))) Q))) :
    gV wdC d mX3_sortTurns 19 [some (.inr (.inr 1)), some (.inl x1), some (.inl x2), some (.inl x3)] h Q := by
  unfold gV
  refine x_iload_n (pc := 19) (show decode mX3_sortTurns.2.1 19 = .ok (.iload_n 3, 1) by decide +kernel) rfl rfl ?_
  obtain ⟨hg, hR⟩ := hR
  refine x_if_le (pc := 20) (tgt := 55) (show decode mX3_sortTurns.2.1 20 = .ok (.ifCond .le 35, 3) by decide +kernel) (by decide) hg (fun hc => ?_) (fun hc => ?_)
  · replace hR := hR.1 hc
    refine x_aload_n (pc := 55) (show decode mX3_sortTurns.2.1 55 = .ok (.aload_n 0, 1) by decide +kernel) rfl rfl ?_
    refine x_getR (pc := 56) f3_34 rfl rfl (show decode mX3_sortTurns.2.1 56 = .ok (.getfield 34, 3) by decide +kernel) ?_
    refine x_iload_n (pc := 59) (show decode mX3_sortTurns.2.1 59 = .ok (.iload_n 3, 1) by decide +kernel) rfl rfl ?_
    refine x_iload_n (pc := 60) (show decode mX3_sortTurns.2.1 60 = .ok (.iload_n 2, 1) by decide +kernel) rfl rfl ?_
    obtain ⟨hg, hR⟩ := hR
    refine x_iast (pc := 61) rfl (by decide) hg (show decode mX3_sortTurns.2.1 61 = .ok (.iastore, 1) by decide +kernel) ?_
    refine x_iinc (pc := 62) (ls' := [some (.inr (.inr 1)), some (.inl (x1 + 1)), some (.inl x2), some (.inl x3)]) (show decode mX3_sortTurns.2.1 62 = .ok (.iinc 1 1, 3) by decide +kernel) (by decide) rfl rfl ?_
    refine x_goto (pc := 65) (tgt := 2) (show decode mX3_sortTurns.2.1 65 = .ok (.goto (-63), 3) by decide +kernel) (by decide) ?_
    exact x_weak (xle_get (by repeat' constructor)) hR
  · replace hR := hR.2 hc
    refine x_aload_n (pc := 23) (show decode mX3_sortTurns.2.1 23 = .ok (.aload_n 0, 1) by decide +kernel) rfl rfl ?_
    refine x_getR (pc := 24) f3_34 rfl rfl (show decode mX3_sortTurns.2.1 24 = .ok (.getfield 34, 3) by decide +kernel) ?_
    refine x_iload_n (pc := 27) (show decode mX3_sortTurns.2.1 27 = .ok (.iload_n 3, 1) by decide +kernel) rfl rfl ?_
    refine x_iconst (pc := 28) (n := 1) (show decode mX3_sortTurns.2.1 28 = .ok (.iconst 1, 1) by decide +kernel) ?_
    refine x_isub (pc := 29) (show decode mX3_sortTurns.2.1 29 = .ok (.isub, 1) by decide +kernel) ?_
    obtain ⟨hg, hR⟩ := hR
    refine x_iald (pc := 30) rfl (by decide) hg (show decode mX3_sortTurns.2.1 30 = .ok (.iaload, 1) by decide +kernel) ?_
    refine x_iload_n (pc := 31) (show decode mX3_sortTurns.2.1 31 = .ok (.iload_n 2, 1) by decide +kernel) rfl rfl ?_
    obtain ⟨hg, hR⟩ := hR
    refine x_icmp_le (pc := 32) (tgt := 55) (show decode mX3_sortTurns.2.1 32 = .ok (.if_icmp .le 23, 3) by decide +kernel) (by decide) ⟨hg.1, hg.2⟩ (fun hc => ?_) (fun hc => ?_)
    · replace hR := hR.1 hc
      refine x_aload_n (pc := 55) (show decode mX3_sortTurns.2.1 55 = .ok (.aload_n 0, 1) by decide +kernel) rfl rfl ?_
      refine x_getR (pc := 56) f3_34 rfl rfl (show decode mX3_sortTurns.2.1 56 = .ok (.getfield 34, 3) by decide +kernel) ?_
      refine x_iload_n (pc := 59) (show decode mX3_sortTurns.2.1 59 = .ok (.iload_n 3, 1) by decide +kernel) rfl rfl ?_
      refine x_iload_n (pc := 60) (show decode mX3_sortTurns.2.1 60 = .ok (.iload_n 2, 1) by decide +kernel) rfl rfl ?_
      obtain ⟨hg, hR⟩ := hR
      refine x_iast (pc := 61) rfl (by decide) hg (show decode mX3_sortTurns.2.1 61 = .ok (.iastore, 1) by decide +kernel) ?_
      refine x_iinc (pc := 62) (ls' := [some (.inr (.inr 1)), some (.inl (x1 + 1)), some (.inl x2), some (.inl x3)]) (show decode mX3_sortTurns.2.1 62 = .ok (.iinc 1 1, 3) by decide +kernel) (by decide) rfl rfl ?_
      refine x_goto (pc := 65) (tgt := 2) (show decode mX3_sortTurns.2.1 65 = .ok (.goto (-63), 3) by decide +kernel) (by decide) ?_
      exact x_weak (xle_get (by repeat' constructor)) hR
    · replace hR := hR.2 hc
      refine x_aload_n (pc := 35) (show decode mX3_sortTurns.2.1 35 = .ok (.aload_n 0, 1) by decide +kernel) rfl rfl ?_
      refine x_getR (pc := 36) f3_34 rfl rfl (show decode mX3_sortTurns.2.1 36 = .ok (.getfield 34, 3) by decide +kernel) ?_
      refine x_iload_n (pc := 39) (show decode mX3_sortTurns.2.1 39 = .ok (.iload_n 3, 1) by decide +kernel) rfl rfl ?_
      refine x_aload_n (pc := 40) (show decode mX3_sortTurns.2.1 40 = .ok (.aload_n 0, 1) by decide +kernel) rfl rfl ?_
      refine x_getR (pc := 41) f3_34 rfl rfl (show decode mX3_sortTurns.2.1 41 = .ok (.getfield 34, 3) by decide +kernel) ?_
      refine x_iload_n (pc := 44) (show decode mX3_sortTurns.2.1 44 = .ok (.iload_n 3, 1) by decide +kernel) rfl rfl ?_
      refine x_iconst (pc := 45) (n := 1) (show decode mX3_sortTurns.2.1 45 = .ok (.iconst 1, 1) by decide +kernel) ?_
      refine x_isub (pc := 46) (show decode mX3_sortTurns.2.1 46 = .ok (.isub, 1) by decide +kernel) ?_
      obtain ⟨hg, hR⟩ := hR
      refine x_iald (pc := 47) rfl (by decide) hg (show decode mX3_sortTurns.2.1 47 = .ok (.iaload, 1) by decide +kernel) ?_
      obtain ⟨hg, hR⟩ := hR
      refine x_iast (pc := 48) rfl (by decide) hg (show decode mX3_sortTurns.2.1 48 = .ok (.iastore, 1) by decide +kernel) ?_
      refine x_iinc (pc := 49) (ls' := [some (.inr (.inr 1)), some (.inl x1), some (.inl x2), some (.inl (x3 + (-1)))]) (show decode mX3_sortTurns.2.1 49 = .ok (.iinc 3 (-1), 3) by decide +kernel) (by decide) rfl rfl ?_
      refine x_goto (pc := 52) (tgt := 19) (show decode mX3_sortTurns.2.1 52 = .ok (.goto (-33), 3) by decide +kernel) (by decide) ?_
      exact hR
set_option maxRecDepth 4000 in
theorem sg_X3_isFilled_0 {d : Nat} {x1 x2 : Int} {h : xH} {Q : Int → xH → Prop}
    (hR : (inI (h 1 1) ∧ 0 ≤ x1 ∧ x1 ≤ 31) ∧ (inI (xandI ((h 1 1) / 2 ^ (Int.toNat x1)) 1)) ∧ (¬ (xandI ((h 1 1) / 2 ^ (Int.toNat x1)) 1) = 1 → gI wdC d mX3_isFilled 21 [some (.inr (.inr 1)), some (.inl x1), some (.inl x2), some (.inl 0), some (.inl 0)] h Q) ∧ ((xandI ((h 1 1) / 2 ^ (Int.toNat x1)) 1) = 1 → gI wdC d mX3_isFilled 21 [some (.inr (.inr 1)), some (.inl x1), some (.inl x2), some (.inl 1), some (.inl 0)] h Q)) :
    gI wdC d mX3_isFilled 0 [some (.inr (.inr 1)), some (.inl x1), some (.inl x2), none, none] h Q := by
  unfold gI
  refine x_aload_n (pc := 0) (show decode mX3_isFilled.2.1 0 = .ok (.aload_n 0, 1) by decide +kernel) rfl rfl ?_
  refine x_getI (pc := 1) (ki := 1) f3_15 rfl rfl (by decide) rfl (show decode mX3_isFilled.2.1 1 = .ok (.getfield 15, 3) by decide +kernel) ?_
  refine x_iload_n (pc := 4) (show decode mX3_isFilled.2.1 4 = .ok (.iload_n 1, 1) by decide +kernel) rfl rfl ?_
  obtain ⟨hg, hR⟩ := hR
  refine x_ishr (pc := 5) (show decode mX3_isFilled.2.1 5 = .ok (.ishr, 1) by decide +kernel) hg ?_
  refine x_iconst (pc := 6) (n := 1) (show decode mX3_isFilled.2.1 6 = .ok (.iconst 1, 1) by decide +kernel) ?_
  refine x_iand (pc := 7) (show decode mX3_isFilled.2.1 7 = .ok (.iand, 1) by decide +kernel) ?_
  refine x_iconst (pc := 8) (n := 1) (show decode mX3_isFilled.2.1 8 = .ok (.iconst 1, 1) by decide +kernel) ?_
  obtain ⟨hg, hR⟩ := hR
  refine x_icmp_ne (pc := 9) (tgt := 16) (show decode mX3_isFilled.2.1 9 = .ok (.if_icmp .ne 7, 3) by decide +kernel) (by decide) ⟨hg, (by unfold inI; decide)⟩ (fun hc => ?_) (fun hc => ?_)
  · replace hR := hR.1 hc
    refine x_iconst (pc := 16) (n := 0) (show decode mX3_isFilled.2.1 16 = .ok (.iconst 0, 1) by decide +kernel) ?_
    refine x_istore_n (pc := 17) (ls' := [some (.inr (.inr 1)), some (.inl x1), some (.inl x2), some (.inl 0), none]) (show decode mX3_isFilled.2.1 17 = .ok (.istore_n 3, 1) by decide +kernel) rfl (by decide) rfl ?_
    refine x_iconst (pc := 18) (n := 0) (show decode mX3_isFilled.2.1 18 = .ok (.iconst 0, 1) by decide +kernel) ?_
    refine x_istore (pc := 19) (ls' := [some (.inr (.inr 1)), some (.inl x1), some (.inl x2), some (.inl 0), some (.inl 0)]) (show decode mX3_isFilled.2.1 19 = .ok (.istore 4, 2) by decide +kernel) (by decide) rfl ?_
    exact hR
  · replace hR := hR.2 hc
    refine x_iconst (pc := 12) (n := 1) (show decode mX3_isFilled.2.1 12 = .ok (.iconst 1, 1) by decide +kernel) ?_
    refine x_goto (pc := 13) (tgt := 17) (show decode mX3_isFilled.2.1 13 = .ok (.goto 4, 3) by decide +kernel) (by decide) ?_
    refine x_istore_n (pc := 17) (ls' := [some (.inr (.inr 1)), some (.inl x1), some (.inl x2), some (.inl 1), none]) (show decode mX3_isFilled.2.1 17 = .ok (.istore_n 3, 1) by decide +kernel) rfl (by decide) rfl ?_
    refine x_iconst (pc := 18) (n := 0) (show decode mX3_isFilled.2.1 18 = .ok (.iconst 0, 1) by decide +kernel) ?_
    refine x_istore (pc := 19) (ls' := [some (.inr (.inr 1)), some (.inl x1), some (.inl x2), some (.inl 1), some (.inl 0)]) (show decode mX3_isFilled.2.1 19 = .ok (.istore 4, 2) by decide +kernel) (by decide) rfl ?_
    exact hR
set_option maxRecDepth 4000 in
theorem sg_X3_isFilled_21 {d : Nat} {x1 x2 x3 x4 : Int} {h : xH} {Q : Int → xH → Prop} (hd : 1 ≤ d)
    (hR : (inI x4 ∧ inI (h 1 6)) ∧ ((h 1 6) ≤ x4 → (x3 = 0 ∨ x3 = 1) ∧ Q x3 h) ∧ (x4 < (h 1 6) → (0 ≤ x4 ∧ x4 < 10) ∧ cI wdC (d - 1) mX3_slotOfTurn [.inl (h 5 x4)] h (fun r2 h1 => (inI r2 ∧ inI x1) ∧ (¬ r2 = x1 → gI wdC d mX3_isFilled 21 [some (.inr (.inr 1)), some (.inl x1), some (.inl x2), some (.inl x3), some (.inl (x4 + 1))] h1 Q) ∧ (r2 = x1 → (0 ≤ x4 ∧ x4 < 10) ∧ cI wdC (d - 1) mX3_rowOfTurn [.inl (h1 5 x4)] h1 (fun r4 h3 => (inI r4 ∧ inI x2) ∧ (x2 < r4 → gI wdC d mX3_isFilled 21 [some (.inr (.inr 1)), some (.inl x1), some (.inl x2), some (.inl x3), some (.inl (x4 + 1))] h3 Q) ∧ (r4 ≤ x2 → (inI x3) ∧ (¬ x3 = 0 → gI wdC d mX3_isFilled 21 [some (.inr (.inr 1)), some (.inl x1), some (.inl x2), some (.inl 0), some (.inl (x4 + 1))] h3 Q) ∧ (x3 = 0 → gI wdC d mX3_isFilled 21 [some (.inr (.inr 1)), some (.inl x1), some (.inl x2), some (.inl 1), some (.inl (x4 + 1))] h3 Q))))))) :
    gI wdC d mX3_isFilled 21 [some (.inr (.inr 1)), some (.inl x1), some (.inl x2), some (.inl x3), some (.inl x4)] h Q := by
  unfold gI
  refine x_iload (pc := 21) (show decode mX3_isFilled.2.1 21 = .ok (.iload 4, 2) by decide +kernel) rfl ?_
  refine x_aload_n (pc := 23) (show decode mX3_isFilled.2.1 23 = .ok (.aload_n 0, 1) by decide +kernel) rfl rfl ?_
  refine x_getI (pc := 24) (ki := 6) f3_31 rfl rfl (by decide) rfl (show decode mX3_isFilled.2.1 24 = .ok (.getfield 31, 3) by decide +kernel) ?_
  obtain ⟨hg, hR⟩ := hR
  refine x_icmp_ge (pc := 27) (tgt := 74) (show decode mX3_isFilled.2.1 27 = .ok (.if_icmp .ge 47, 3) by decide +kernel) (by decide) ⟨hg.1, hg.2⟩ (fun hc => ?_) (fun hc => ?_)
  · replace hR := hR.1 hc
    refine x_iload_n (pc := 74) (show decode mX3_isFilled.2.1 74 = .ok (.iload_n 3, 1) by decide +kernel) rfl rfl ?_
    exact x_zret (pc := 75) rfl (show decode mX3_isFilled.2.1 75 = .ok (.ireturn, 1) by decide +kernel) hR.1 ⟨_, rfl, hR.2⟩
  · replace hR := hR.2 hc
    refine x_aload_n (pc := 30) (show decode mX3_isFilled.2.1 30 = .ok (.aload_n 0, 1) by decide +kernel) rfl rfl ?_
    refine x_getR (pc := 31) f3_34 rfl rfl (show decode mX3_isFilled.2.1 31 = .ok (.getfield 34, 3) by decide +kernel) ?_
    refine x_iload (pc := 34) (show decode mX3_isFilled.2.1 34 = .ok (.iload 4, 2) by decide +kernel) rfl ?_
    obtain ⟨hg, hR⟩ := hR
    refine x_iald (pc := 36) rfl (by decide) hg (show decode mX3_isFilled.2.1 36 = .ok (.iaload, 1) by decide +kernel) ?_
    refine x_callS (pc := 37) (As := [.inl (h 5 x4)]) (rest := []) (lk3_63 rfl) sm_X3_slotOfTurn (Nat.le_of_ble_eq_true rfl) (Nat.le_of_ble_eq_true rfl) (show decode mX3_isFilled.2.1 37 = .ok (.invokestatic 63, 3) by decide +kernel) hd hR (fun r9 h1 hq => ?_)
    obtain ⟨r2, rfl, hR⟩ := hq
    show xG _ _ _ 40 _ [.inl r2] _ _
    refine x_iload_n (pc := 40) (show decode mX3_isFilled.2.1 40 = .ok (.iload_n 1, 1) by decide +kernel) rfl rfl ?_
    obtain ⟨hg, hR⟩ := hR
    refine x_icmp_ne (pc := 41) (tgt := 68) (show decode mX3_isFilled.2.1 41 = .ok (.if_icmp .ne 27, 3) by decide +kernel) (by decide) ⟨hg.1, hg.2⟩ (fun hc => ?_) (fun hc => ?_)
    · replace hR := hR.1 hc
      refine x_iinc (pc := 68) (ls' := [some (.inr (.inr 1)), some (.inl x1), some (.inl x2), some (.inl x3), some (.inl (x4 + 1))]) (show decode mX3_isFilled.2.1 68 = .ok (.iinc 4 1, 3) by decide +kernel) (by decide) rfl rfl ?_
      refine x_goto (pc := 71) (tgt := 21) (show decode mX3_isFilled.2.1 71 = .ok (.goto (-50), 3) by decide +kernel) (by decide) ?_
      exact hR
    · replace hR := hR.2 hc
      refine x_aload_n (pc := 44) (show decode mX3_isFilled.2.1 44 = .ok (.aload_n 0, 1) by decide +kernel) rfl rfl ?_
      refine x_getR (pc := 45) f3_34 rfl rfl (show decode mX3_isFilled.2.1 45 = .ok (.getfield 34, 3) by decide +kernel) ?_
      refine x_iload (pc := 48) (show decode mX3_isFilled.2.1 48 = .ok (.iload 4, 2) by decide +kernel) rfl ?_
      obtain ⟨hg, hR⟩ := hR
      refine x_iald (pc := 50) rfl (by decide) hg (show decode mX3_isFilled.2.1 50 = .ok (.iaload, 1) by decide +kernel) ?_
      refine x_callS (pc := 51) (As := [.inl (h1 5 x4)]) (rest := []) (lk3_66 rfl) sm_X3_rowOfTurn (Nat.le_of_ble_eq_true rfl) (Nat.le_of_ble_eq_true rfl) (show decode mX3_isFilled.2.1 51 = .ok (.invokestatic 66, 3) by decide +kernel) hd hR (fun r9 h3 hq => ?_)
      obtain ⟨r4, rfl, hR⟩ := hq
      show xG _ _ _ 54 _ [.inl r4] _ _
      refine x_iload_n (pc := 54) (show decode mX3_isFilled.2.1 54 = .ok (.iload_n 2, 1) by decide +kernel) rfl rfl ?_
      obtain ⟨hg, hR⟩ := hR
      refine x_icmp_gt (pc := 55) (tgt := 68) (show decode mX3_isFilled.2.1 55 = .ok (.if_icmp .gt 13, 3) by decide +kernel) (by decide) ⟨hg.1, hg.2⟩ (fun hc => ?_) (fun hc => ?_)
      · replace hR := hR.1 hc
        refine x_iinc (pc := 68) (ls' := [some (.inr (.inr 1)), some (.inl x1), some (.inl x2), some (.inl x3), some (.inl (x4 + 1))]) (show decode mX3_isFilled.2.1 68 = .ok (.iinc 4 1, 3) by decide +kernel) (by decide) rfl rfl ?_
        refine x_goto (pc := 71) (tgt := 21) (show decode mX3_isFilled.2.1 71 = .ok (.goto (-50), 3) by decide +kernel) (by decide) ?_
        exact hR
      · replace hR := hR.2 hc
        refine x_iload_n (pc := 58) (show decode mX3_isFilled.2.1 58 = .ok (.iload_n 3, 1) by decide +kernel) rfl rfl ?_
        obtain ⟨hg, hR⟩ := hR
        refine x_if_ne (pc := 59) (tgt := 66) (show decode mX3_isFilled.2.1 59 = .ok (.ifCond .ne 7, 3) by decide +kernel) (by decide) hg (fun hc => ?_) (fun hc => ?_)
        · replace hR := hR.1 hc
          refine x_iconst (pc := 66) (n := 0) (show decode mX3_isFilled.2.1 66 = .ok (.iconst 0, 1) by decide +kernel) ?_
          refine x_istore_n (pc := 67) (ls' := [some (.inr (.inr 1)), some (.inl x1), some (.inl x2), some (.inl 0), some (.inl x4)]) (show decode mX3_isFilled.2.1 67 = .ok (.istore_n 3, 1) by decide +kernel) rfl (by decide) rfl ?_
          refine x_iinc (pc := 68) (ls' := [some (.inr (.inr 1)), some (.inl x1), some (.inl x2), some (.inl 0), some (.inl (x4 + 1))]) (show decode mX3_isFilled.2.1 68 = .ok (.iinc 4 1, 3) by decide +kernel) (by decide) rfl rfl ?_
          refine x_goto (pc := 71) (tgt := 21) (show decode mX3_isFilled.2.1 71 = .ok (.goto (-50), 3) by decide +kernel) (by decide) ?_
          exact hR
        · replace hR := hR.2 hc
          refine x_iconst (pc := 62) (n := 1) (show decode mX3_isFilled.2.1 62 = .ok (.iconst 1, 1) by decide +kernel) ?_
          refine x_goto (pc := 63) (tgt := 67) (show decode mX3_isFilled.2.1 63 = .ok (.goto 4, 3) by decide +kernel) (by decide) ?_
          refine x_istore_n (pc := 67) (ls' := [some (.inr (.inr 1)), some (.inl x1), some (.inl x2), some (.inl 1), some (.inl x4)]) (show decode mX3_isFilled.2.1 67 = .ok (.istore_n 3, 1) by decide +kernel) rfl (by decide) rfl ?_
          refine x_iinc (pc := 68) (ls' := [some (.inr (.inr 1)), some (.inl x1), some (.inl x2), some (.inl 1), some (.inl (x4 + 1))]) (show decode mX3_isFilled.2.1 68 = .ok (.iinc 4 1, 3) by decide +kernel) (by decide) rfl rfl ?_
          refine x_goto (pc := 71) (tgt := 21) (show decode mX3_isFilled.2.1 71 = .ok (.goto (-50), 3) by decide +kernel) (by decide) ?_
          exact hR
set_option maxRecDepth 4000 in
theorem sg_X3_turnsFull_0 {d : Nat} {x1 : Int} {h : xH} {Q : Int → xH → Prop} (hd : 1 ≤ d)
    (hR : (0 ≤ x1 ∧ x1 < 10) ∧ cI wdC (d - 1) mX3_slotOfTurn [.inl (h 5 x1)] h (fun r2 h1 => (0 ≤ x1 ∧ x1 < 10) ∧ cI wdC (d - 1) mX3_rowOfTurn [.inl (h1 5 x1)] h1 (fun r4 h3 => cI wdC (d - 1) mX3_isFilled [.inr (.inr 1), .inl r2, .inl r4] h3 (fun r6 h5 => (r6 = 0 ∨ r6 = 1) ∧ Q r6 h5)))) :
    gI wdC d mX3_turnsFull 0 [some (.inr (.inr 1)), some (.inl x1)] h Q := by
  unfold gI
  refine x_aload_n (pc := 0) (show decode mX3_turnsFull.2.1 0 = .ok (.aload_n 0, 1) by decide +kernel) rfl rfl ?_
  refine x_aload_n (pc := 1) (show decode mX3_turnsFull.2.1 1 = .ok (.aload_n 0, 1) by decide +kernel) rfl rfl ?_
  refine x_getR (pc := 2) f3_34 rfl rfl (show decode mX3_turnsFull.2.1 2 = .ok (.getfield 34, 3) by decide +kernel) ?_
  refine x_iload_n (pc := 5) (show decode mX3_turnsFull.2.1 5 = .ok (.iload_n 1, 1) by decide +kernel) rfl rfl ?_
  obtain ⟨hg, hR⟩ := hR
  refine x_iald (pc := 6) rfl (by decide) hg (show decode mX3_turnsFull.2.1 6 = .ok (.iaload, 1) by decide +kernel) ?_
  refine x_callS (pc := 7) (As := [.inl (h 5 x1)]) (rest := [.inr (.inr 1)]) (lk3_63 rfl) sm_X3_slotOfTurn (Nat.le_of_ble_eq_true rfl) (Nat.le_of_ble_eq_true rfl) (show decode mX3_turnsFull.2.1 7 = .ok (.invokestatic 63, 3) by decide +kernel) hd hR (fun r9 h1 hq => ?_)
  obtain ⟨r2, rfl, hR⟩ := hq
  show xG _ _ _ 10 _ [.inl r2, .inr (.inr 1)] _ _
  refine x_aload_n (pc := 10) (show decode mX3_turnsFull.2.1 10 = .ok (.aload_n 0, 1) by decide +kernel) rfl rfl ?_
  refine x_getR (pc := 11) f3_34 rfl rfl (show decode mX3_turnsFull.2.1 11 = .ok (.getfield 34, 3) by decide +kernel) ?_
  refine x_iload_n (pc := 14) (show decode mX3_turnsFull.2.1 14 = .ok (.iload_n 1, 1) by decide +kernel) rfl rfl ?_
  obtain ⟨hg, hR⟩ := hR
  refine x_iald (pc := 15) rfl (by decide) hg (show decode mX3_turnsFull.2.1 15 = .ok (.iaload, 1) by decide +kernel) ?_
  refine x_callS (pc := 16) (As := [.inl (h1 5 x1)]) (rest := [.inl r2, .inr (.inr 1)]) (lk3_66 rfl) sm_X3_rowOfTurn (Nat.le_of_ble_eq_true rfl) (Nat.le_of_ble_eq_true rfl) (show decode mX3_turnsFull.2.1 16 = .ok (.invokestatic 66, 3) by decide +kernel) hd hR (fun r9 h3 hq => ?_)
  obtain ⟨r4, rfl, hR⟩ := hq
  show xG _ _ _ 19 _ [.inl r4, .inl r2, .inr (.inr 1)] _ _
  refine x_callV (pc := 19) (As := [.inl r2, .inl r4]) (rest := []) (lk3_69 rfl) im_X3_isFilled sl_X3_isFilled rfl rfl rfl (Nat.le_of_ble_eq_true rfl) (Nat.le_of_ble_eq_true rfl) (show decode mX3_turnsFull.2.1 19 = .ok (.invokevirtual 69, 3) by decide +kernel) hd hR (fun r9 h5 hq => ?_)
  obtain ⟨r6, rfl, hR⟩ := hq
  show xG _ _ _ 22 _ [.inl r6] _ _
  exact x_zret (pc := 22) rfl (show decode mX3_turnsFull.2.1 22 = .ok (.ireturn, 1) by decide +kernel) hR.1 ⟨_, rfl, hR.2⟩
set_option maxRecDepth 4000 in
theorem sg_X3_turnsInto_0 {d : Nat} {x1 : Int} {h : xH} {Q : Int → xH → Prop}
    (hR : gI wdC d mX3_turnsInto 4 [some (.inr (.inr 1)), some (.inl x1), some (.inl 0), some (.inl 0)] h Q) :
    gI wdC d mX3_turnsInto 0 [some (.inr (.inr 1)), some (.inl x1), none, none] h Q := by
  unfold gI
  refine x_iconst (pc := 0) (n := 0) (show decode mX3_turnsInto.2.1 0 = .ok (.iconst 0, 1) by decide +kernel) ?_
  refine x_istore_n (pc := 1) (ls' := [some (.inr (.inr 1)), some (.inl x1), some (.inl 0), none]) (show decode mX3_turnsInto.2.1 1 = .ok (.istore_n 2, 1) by decide +kernel) rfl (by decide) rfl ?_
  refine x_iconst (pc := 2) (n := 0) (show decode mX3_turnsInto.2.1 2 = .ok (.iconst 0, 1) by decide +kernel) ?_
  refine x_istore_n (pc := 3) (ls' := [some (.inr (.inr 1)), some (.inl x1), some (.inl 0), some (.inl 0)]) (show decode mX3_turnsInto.2.1 3 = .ok (.istore_n 3, 1) by decide +kernel) rfl (by decide) rfl ?_
  exact hR
set_option maxRecDepth 4000 in
theorem sg_X3_turnsInto_4 {d : Nat} {x1 x2 x3 : Int} {h : xH} {Q : Int → xH → Prop} (hd : 1 ≤ d)
    (hR : (inI x3 ∧ inI (h 1 6)) ∧ ((h 1 6) ≤ x3 → Q x2 h) ∧ (x3 < (h 1 6) → cI wdC (d - 1) mX3_turnsFull [.inr (.inr 1), .inl x3] h (fun r2 h1 => (inI r2 ∧ inI x1) ∧ (¬ r2 = x1 → gI wdC d mX3_turnsInto 4 [some (.inr (.inr 1)), some (.inl x1), some (.inl x2), some (.inl (x3 + 1))] h1 Q) ∧ (r2 = x1 → gI wdC d mX3_turnsInto 4 [some (.inr (.inr 1)), some (.inl x1), some (.inl (x2 + 1)), some (.inl (x3 + 1))] h1 Q)))) :
    gI wdC d mX3_turnsInto 4 [some (.inr (.inr 1)), some (.inl x1), some (.inl x2), some (.inl x3)] h Q := by
  unfold gI
  refine x_iload_n (pc := 4) (show decode mX3_turnsInto.2.1 4 = .ok (.iload_n 3, 1) by decide +kernel) rfl rfl ?_
  refine x_aload_n (pc := 5) (show decode mX3_turnsInto.2.1 5 = .ok (.aload_n 0, 1) by decide +kernel) rfl rfl ?_
  refine x_getI (pc := 6) (ki := 6) f3_31 rfl rfl (by decide) rfl (show decode mX3_turnsInto.2.1 6 = .ok (.getfield 31, 3) by decide +kernel) ?_
  obtain ⟨hg, hR⟩ := hR
  refine x_icmp_ge (pc := 9) (tgt := 30) (show decode mX3_turnsInto.2.1 9 = .ok (.if_icmp .ge 21, 3) by decide +kernel) (by decide) ⟨hg.1, hg.2⟩ (fun hc => ?_) (fun hc => ?_)
  · replace hR := hR.1 hc
    refine x_iload_n (pc := 30) (show decode mX3_turnsInto.2.1 30 = .ok (.iload_n 2, 1) by decide +kernel) rfl rfl ?_
    exact x_iret (pc := 31) rfl (show decode mX3_turnsInto.2.1 31 = .ok (.ireturn, 1) by decide +kernel) ⟨_, rfl, hR⟩
  · replace hR := hR.2 hc
    refine x_aload_n (pc := 12) (show decode mX3_turnsInto.2.1 12 = .ok (.aload_n 0, 1) by decide +kernel) rfl rfl ?_
    refine x_iload_n (pc := 13) (show decode mX3_turnsInto.2.1 13 = .ok (.iload_n 3, 1) by decide +kernel) rfl rfl ?_
    refine x_callV (pc := 14) (As := [.inl x3]) (rest := []) (lk3_73 rfl) im_X3_turnsFull sl_X3_turnsFull rfl rfl rfl (Nat.le_of_ble_eq_true rfl) (Nat.le_of_ble_eq_true rfl) (show decode mX3_turnsInto.2.1 14 = .ok (.invokevirtual 73, 3) by decide +kernel) hd hR (fun r9 h1 hq => ?_)
    obtain ⟨r2, rfl, hR⟩ := hq
    show xG _ _ _ 17 _ [.inl r2] _ _
    refine x_iload_n (pc := 17) (show decode mX3_turnsInto.2.1 17 = .ok (.iload_n 1, 1) by decide +kernel) rfl rfl ?_
    obtain ⟨hg, hR⟩ := hR
    refine x_icmp_ne (pc := 18) (tgt := 24) (show decode mX3_turnsInto.2.1 18 = .ok (.if_icmp .ne 6, 3) by decide +kernel) (by decide) ⟨hg.1, hg.2⟩ (fun hc => ?_) (fun hc => ?_)
    · replace hR := hR.1 hc
      refine x_iinc (pc := 24) (ls' := [some (.inr (.inr 1)), some (.inl x1), some (.inl x2), some (.inl (x3 + 1))]) (show decode mX3_turnsInto.2.1 24 = .ok (.iinc 3 1, 3) by decide +kernel) (by decide) rfl rfl ?_
      refine x_goto (pc := 27) (tgt := 4) (show decode mX3_turnsInto.2.1 27 = .ok (.goto (-23), 3) by decide +kernel) (by decide) ?_
      exact hR
    · replace hR := hR.2 hc
      refine x_iinc (pc := 21) (ls' := [some (.inr (.inr 1)), some (.inl x1), some (.inl (x2 + 1)), some (.inl x3)]) (show decode mX3_turnsInto.2.1 21 = .ok (.iinc 2 1, 3) by decide +kernel) (by decide) rfl rfl ?_
      refine x_iinc (pc := 24) (ls' := [some (.inr (.inr 1)), some (.inl x1), some (.inl (x2 + 1)), some (.inl (x3 + 1))]) (show decode mX3_turnsInto.2.1 24 = .ok (.iinc 3 1, 3) by decide +kernel) (by decide) rfl rfl ?_
      refine x_goto (pc := 27) (tgt := 4) (show decode mX3_turnsInto.2.1 27 = .ok (.goto (-23), 3) by decide +kernel) (by decide) ?_
      exact hR
set_option maxRecDepth 4000 in
theorem sg_X3_lacksPair_0 {d : Nat} {x1 : Int} {h : xH} {Q : Int → xH → Prop} (hd : 1 ≤ d)
    (hR : (0 ≤ x1 ∧ x1 < 30) ∧ (0 ≤ x1 ∧ x1 < 30) ∧ cB wdC (d - 1) mX3_isFilled [.inr (.inr 1), .inl (h 3 x1), .inl (h 2 x1)] h (fun h1 => cB wdC (d - 1) mX3_isFilled [.inr (.inr 1), .inl ((h 3 x1) + 1), .inl (h 2 x1)] h1 (fun h2 => Q 0 h2) (fun h2 => Q 1 h2)) (fun h1 => Q 1 h1)) :
    gI wdC d mX3_lacksPair 0 [some (.inr (.inr 1)), some (.inl x1), none, none] h Q := by
  unfold gI
  refine x_aload_n (pc := 0) (show decode mX3_lacksPair.2.1 0 = .ok (.aload_n 0, 1) by decide +kernel) rfl rfl ?_
  refine x_getR (pc := 1) f3_25 rfl rfl (show decode mX3_lacksPair.2.1 1 = .ok (.getfield 25, 3) by decide +kernel) ?_
  refine x_iload_n (pc := 4) (show decode mX3_lacksPair.2.1 4 = .ok (.iload_n 1, 1) by decide +kernel) rfl rfl ?_
  obtain ⟨hg, hR⟩ := hR
  refine x_iald (pc := 5) rfl (by decide) hg (show decode mX3_lacksPair.2.1 5 = .ok (.iaload, 1) by decide +kernel) ?_
  refine x_istore_n (pc := 6) (ls' := [some (.inr (.inr 1)), some (.inl x1), some (.inl (h 3 x1)), none]) (show decode mX3_lacksPair.2.1 6 = .ok (.istore_n 2, 1) by decide +kernel) rfl (by decide) rfl ?_
  refine x_aload_n (pc := 7) (show decode mX3_lacksPair.2.1 7 = .ok (.aload_n 0, 1) by decide +kernel) rfl rfl ?_
  refine x_getR (pc := 8) f3_21 rfl rfl (show decode mX3_lacksPair.2.1 8 = .ok (.getfield 21, 3) by decide +kernel) ?_
  refine x_iload_n (pc := 11) (show decode mX3_lacksPair.2.1 11 = .ok (.iload_n 1, 1) by decide +kernel) rfl rfl ?_
  obtain ⟨hg, hR⟩ := hR
  refine x_iald (pc := 12) rfl (by decide) hg (show decode mX3_lacksPair.2.1 12 = .ok (.iaload, 1) by decide +kernel) ?_
  refine x_istore_n (pc := 13) (ls' := [some (.inr (.inr 1)), some (.inl x1), some (.inl (h 3 x1)), some (.inl (h 2 x1))]) (show decode mX3_lacksPair.2.1 13 = .ok (.istore_n 3, 1) by decide +kernel) rfl (by decide) rfl ?_
  refine x_aload_n (pc := 14) (show decode mX3_lacksPair.2.1 14 = .ok (.aload_n 0, 1) by decide +kernel) rfl rfl ?_
  refine x_iload_n (pc := 15) (show decode mX3_lacksPair.2.1 15 = .ok (.iload_n 2, 1) by decide +kernel) rfl rfl ?_
  refine x_iload_n (pc := 16) (show decode mX3_lacksPair.2.1 16 = .ok (.iload_n 3, 1) by decide +kernel) rfl rfl ?_
  refine x_callV (pc := 17) (As := [.inl (h 3 x1), .inl (h 2 x1)]) (rest := []) (lk3_69 rfl) im_X3_isFilled sl_X3_isFilled rfl rfl rfl (Nat.le_of_ble_eq_true rfl) (Nat.le_of_ble_eq_true rfl) (show decode mX3_lacksPair.2.1 17 = .ok (.invokevirtual 69, 3) by decide +kernel) hd hR (fun r9 h1 hq => ?_)
  obtain ⟨r8, rfl, hq⟩ := hq
  rcases hq with ⟨rfl, hR⟩ | ⟨rfl, hR⟩
  · show xG _ _ _ 20 _ [.inl 1] _ _
    refine x_if_eq (pc := 20) (tgt := 34) (show decode mX3_lacksPair.2.1 20 = .ok (.ifCond .eq 14, 3) by decide +kernel) (by decide) (by unfold inI; decide) (fun hc => absurd hc (by decide)) (fun _ => ?_)
    refine x_aload_n (pc := 23) (show decode mX3_lacksPair.2.1 23 = .ok (.aload_n 0, 1) by decide +kernel) rfl rfl ?_
    refine x_iload_n (pc := 24) (show decode mX3_lacksPair.2.1 24 = .ok (.iload_n 2, 1) by decide +kernel) rfl rfl ?_
    refine x_iconst (pc := 25) (n := 1) (show decode mX3_lacksPair.2.1 25 = .ok (.iconst 1, 1) by decide +kernel) ?_
    refine x_iadd (pc := 26) (show decode mX3_lacksPair.2.1 26 = .ok (.iadd, 1) by decide +kernel) ?_
    refine x_iload_n (pc := 27) (show decode mX3_lacksPair.2.1 27 = .ok (.iload_n 3, 1) by decide +kernel) rfl rfl ?_
    refine x_callV (pc := 28) (As := [.inl ((h 3 x1) + 1), .inl (h 2 x1)]) (rest := []) (lk3_69 rfl) im_X3_isFilled sl_X3_isFilled rfl rfl rfl (Nat.le_of_ble_eq_true rfl) (Nat.le_of_ble_eq_true rfl) (show decode mX3_lacksPair.2.1 28 = .ok (.invokevirtual 69, 3) by decide +kernel) hd hR (fun r9 h2 hq => ?_)
    obtain ⟨r8, rfl, hq⟩ := hq
    rcases hq with ⟨rfl, hR⟩ | ⟨rfl, hR⟩
    · show xG _ _ _ 31 _ [.inl 1] _ _
      refine x_if_ne (pc := 31) (tgt := 38) (show decode mX3_lacksPair.2.1 31 = .ok (.ifCond .ne 7, 3) by decide +kernel) (by decide) (by unfold inI; decide) (fun _ => ?_) (fun hc => absurd hc (by decide))
      refine x_iconst (pc := 38) (n := 0) (show decode mX3_lacksPair.2.1 38 = .ok (.iconst 0, 1) by decide +kernel) ?_
      exact x_zret (pc := 39) rfl (show decode mX3_lacksPair.2.1 39 = .ok (.ireturn, 1) by decide +kernel) (by decide) ⟨_, rfl, hR⟩
    · show xG _ _ _ 31 _ [.inl 0] _ _
      refine x_if_ne (pc := 31) (tgt := 38) (show decode mX3_lacksPair.2.1 31 = .ok (.ifCond .ne 7, 3) by decide +kernel) (by decide) (by unfold inI; decide) (fun hc => absurd hc (by decide)) (fun _ => ?_)
      refine x_iconst (pc := 34) (n := 1) (show decode mX3_lacksPair.2.1 34 = .ok (.iconst 1, 1) by decide +kernel) ?_
      refine x_goto (pc := 35) (tgt := 39) (show decode mX3_lacksPair.2.1 35 = .ok (.goto 4, 3) by decide +kernel) (by decide) ?_
      exact x_zret (pc := 39) rfl (show decode mX3_lacksPair.2.1 39 = .ok (.ireturn, 1) by decide +kernel) (by decide) ⟨_, rfl, hR⟩
  · show xG _ _ _ 20 _ [.inl 0] _ _
    refine x_if_eq (pc := 20) (tgt := 34) (show decode mX3_lacksPair.2.1 20 = .ok (.ifCond .eq 14, 3) by decide +kernel) (by decide) (by unfold inI; decide) (fun _ => ?_) (fun hc => absurd hc (by decide))
    refine x_iconst (pc := 34) (n := 1) (show decode mX3_lacksPair.2.1 34 = .ok (.iconst 1, 1) by decide +kernel) ?_
    refine x_goto (pc := 35) (tgt := 39) (show decode mX3_lacksPair.2.1 35 = .ok (.goto 4, 3) by decide +kernel) (by decide) ?_
    exact x_zret (pc := 39) rfl (show decode mX3_lacksPair.2.1 39 = .ok (.ireturn, 1) by decide +kernel) (by decide) ⟨_, rfl, hR⟩
set_option maxRecDepth 4000 in
theorem sg_X3_uppermost_0 {d : Nat} {x1 : Int} {h : xH} {Q : Int → xH → Prop}
    (hR : gI wdC d mX3_uppermost 5 [some (.inr (.inr 1)), some (.inr (.inl x1)), none, some (.inl (-1)), some (.inl 0)] h Q) :
    gI wdC d mX3_uppermost 0 [some (.inr (.inr 1)), some (.inr (.inl x1)), none, none, none] h Q := by
  unfold gI
  refine x_iconst (pc := 0) (n := (-1)) (show decode mX3_uppermost.2.1 0 = .ok (.iconst (-1), 1) by decide +kernel) ?_
  refine x_istore_n (pc := 1) (ls' := [some (.inr (.inr 1)), some (.inr (.inl x1)), none, some (.inl (-1)), none]) (show decode mX3_uppermost.2.1 1 = .ok (.istore_n 3, 1) by decide +kernel) rfl (by decide) rfl ?_
  refine x_iconst (pc := 2) (n := 0) (show decode mX3_uppermost.2.1 2 = .ok (.iconst 0, 1) by decide +kernel) ?_
  refine x_istore (pc := 3) (ls' := [some (.inr (.inr 1)), some (.inr (.inl x1)), none, some (.inl (-1)), some (.inl 0)]) (show decode mX3_uppermost.2.1 3 = .ok (.istore 4, 2) by decide +kernel) (by decide) rfl ?_
  exact hR
set_option maxRecDepth 4000 in
theorem sg_X3_uppermost_5 {d : Nat} {x1 x3 x4 : Int} {h : xH} {Q : Int → xH → Prop} (hd : 1 ≤ d)
    (hR : (inI x4 ∧ inI (h 1 2)) ∧ ((h 1 2) ≤ x4 → Q x3 h) ∧ (x4 < (h 1 2) → cB wdC (d - 1) mX7_hasPin [.inr (.inl x1), .inl x4] h (fun h1 => (inI x3) ∧ (x3 < 0 → gI wdC d mX3_uppermost 5 [some (.inr (.inr 1)), some (.inr (.inl x1)), none, some (.inl x4), some (.inl (x4 + 1))] h1 Q) ∧ (0 ≤ x3 → cB wdC (d - 1) mX3_isAbove [.inr (.inr 1), .inl x4, .inl x3] h1 (fun h2 => gI wdC d mX3_uppermost 5 [some (.inr (.inr 1)), some (.inr (.inl x1)), none, some (.inl x4), some (.inl (x4 + 1))] h2 Q) (fun h2 => gI wdC d mX3_uppermost 5 [some (.inr (.inr 1)), some (.inr (.inl x1)), none, some (.inl x3), some (.inl (x4 + 1))] h2 Q))) (fun h1 => gI wdC d mX3_uppermost 5 [some (.inr (.inr 1)), some (.inr (.inl x1)), none, some (.inl x3), some (.inl (x4 + 1))] h1 Q))) :
    gI wdC d mX3_uppermost 5 [some (.inr (.inr 1)), some (.inr (.inl x1)), none, some (.inl x3), some (.inl x4)] h Q := by
  unfold gI
  refine x_iload (pc := 5) (show decode mX3_uppermost.2.1 5 = .ok (.iload 4, 2) by decide +kernel) rfl ?_
  refine x_aload_n (pc := 7) (show decode mX3_uppermost.2.1 7 = .ok (.aload_n 0, 1) by decide +kernel) rfl rfl ?_
  refine x_getI (pc := 8) (ki := 2) f3_18 rfl rfl (by decide) rfl (show decode mX3_uppermost.2.1 8 = .ok (.getfield 18, 3) by decide +kernel) ?_
  obtain ⟨hg, hR⟩ := hR
  refine x_icmp_ge (pc := 11) (tgt := 46) (show decode mX3_uppermost.2.1 11 = .ok (.if_icmp .ge 35, 3) by decide +kernel) (by decide) ⟨hg.1, hg.2⟩ (fun hc => ?_) (fun hc => ?_)
  · replace hR := hR.1 hc
    refine x_iload_n (pc := 46) (show decode mX3_uppermost.2.1 46 = .ok (.iload_n 3, 1) by decide +kernel) rfl rfl ?_
    exact x_iret (pc := 47) rfl (show decode mX3_uppermost.2.1 47 = .ok (.ireturn, 1) by decide +kernel) ⟨_, rfl, hR⟩
  · replace hR := hR.2 hc
    refine x_lload_n (pc := 14) (show decode mX3_uppermost.2.1 14 = .ok (.lload_n 1, 1) by decide +kernel) rfl rfl ?_
    refine x_iload (pc := 15) (show decode mX3_uppermost.2.1 15 = .ok (.iload 4, 2) by decide +kernel) rfl ?_
    refine x_callSN (pc := 17) (As := [.inr (.inl x1), .inl x4]) (rest := []) (lk3_77 rfl) sm_X7_hasPin (Nat.le_of_ble_eq_true rfl) (Nat.le_of_ble_eq_true rfl) (show decode mX3_uppermost.2.1 17 = .ok (.invokestatic 77, 3) by decide +kernel) hd hR (fun r9 h1 hq => ?_)
    obtain ⟨r8, rfl, hq⟩ := hq
    rcases hq with ⟨rfl, hR⟩ | ⟨rfl, hR⟩
    · show xG _ _ _ 20 _ [.inl 1] _ _
      refine x_if_eq (pc := 20) (tgt := 40) (show decode mX3_uppermost.2.1 20 = .ok (.ifCond .eq 20, 3) by decide +kernel) (by decide) (by unfold inI; decide) (fun hc => absurd hc (by decide)) (fun _ => ?_)
      refine x_iload_n (pc := 23) (show decode mX3_uppermost.2.1 23 = .ok (.iload_n 3, 1) by decide +kernel) rfl rfl ?_
      obtain ⟨hg, hR⟩ := hR
      refine x_if_lt (pc := 24) (tgt := 37) (show decode mX3_uppermost.2.1 24 = .ok (.ifCond .lt 13, 3) by decide +kernel) (by decide) hg (fun hc => ?_) (fun hc => ?_)
      · replace hR := hR.1 hc
        refine x_iload (pc := 37) (show decode mX3_uppermost.2.1 37 = .ok (.iload 4, 2) by decide +kernel) rfl ?_
        refine x_istore_n (pc := 39) (ls' := [some (.inr (.inr 1)), some (.inr (.inl x1)), none, some (.inl x4), some (.inl x4)]) (show decode mX3_uppermost.2.1 39 = .ok (.istore_n 3, 1) by decide +kernel) rfl (by decide) rfl ?_
        refine x_iinc (pc := 40) (ls' := [some (.inr (.inr 1)), some (.inr (.inl x1)), none, some (.inl x4), some (.inl (x4 + 1))]) (show decode mX3_uppermost.2.1 40 = .ok (.iinc 4 1, 3) by decide +kernel) (by decide) rfl rfl ?_
        refine x_goto (pc := 43) (tgt := 5) (show decode mX3_uppermost.2.1 43 = .ok (.goto (-38), 3) by decide +kernel) (by decide) ?_
        exact hR
      · replace hR := hR.2 hc
        refine x_aload_n (pc := 27) (show decode mX3_uppermost.2.1 27 = .ok (.aload_n 0, 1) by decide +kernel) rfl rfl ?_
        refine x_iload (pc := 28) (show decode mX3_uppermost.2.1 28 = .ok (.iload 4, 2) by decide +kernel) rfl ?_
        refine x_iload_n (pc := 30) (show decode mX3_uppermost.2.1 30 = .ok (.iload_n 3, 1) by decide +kernel) rfl rfl ?_
        refine x_callV (pc := 31) (As := [.inl x4, .inl x3]) (rest := []) (lk3_81 rfl) im_X3_isAbove sl_X3_isAbove rfl rfl rfl (Nat.le_of_ble_eq_true rfl) (Nat.le_of_ble_eq_true rfl) (show decode mX3_uppermost.2.1 31 = .ok (.invokevirtual 81, 3) by decide +kernel) hd hR (fun r9 h2 hq => ?_)
        obtain ⟨r8, rfl, hq⟩ := hq
        rcases hq with ⟨rfl, hR⟩ | ⟨rfl, hR⟩
        · show xG _ _ _ 34 _ [.inl 1] _ _
          refine x_if_eq (pc := 34) (tgt := 40) (show decode mX3_uppermost.2.1 34 = .ok (.ifCond .eq 6, 3) by decide +kernel) (by decide) (by unfold inI; decide) (fun hc => absurd hc (by decide)) (fun _ => ?_)
          refine x_iload (pc := 37) (show decode mX3_uppermost.2.1 37 = .ok (.iload 4, 2) by decide +kernel) rfl ?_
          refine x_istore_n (pc := 39) (ls' := [some (.inr (.inr 1)), some (.inr (.inl x1)), none, some (.inl x4), some (.inl x4)]) (show decode mX3_uppermost.2.1 39 = .ok (.istore_n 3, 1) by decide +kernel) rfl (by decide) rfl ?_
          refine x_iinc (pc := 40) (ls' := [some (.inr (.inr 1)), some (.inr (.inl x1)), none, some (.inl x4), some (.inl (x4 + 1))]) (show decode mX3_uppermost.2.1 40 = .ok (.iinc 4 1, 3) by decide +kernel) (by decide) rfl rfl ?_
          refine x_goto (pc := 43) (tgt := 5) (show decode mX3_uppermost.2.1 43 = .ok (.goto (-38), 3) by decide +kernel) (by decide) ?_
          exact hR
        · show xG _ _ _ 34 _ [.inl 0] _ _
          refine x_if_eq (pc := 34) (tgt := 40) (show decode mX3_uppermost.2.1 34 = .ok (.ifCond .eq 6, 3) by decide +kernel) (by decide) (by unfold inI; decide) (fun _ => ?_) (fun hc => absurd hc (by decide))
          refine x_iinc (pc := 40) (ls' := [some (.inr (.inr 1)), some (.inr (.inl x1)), none, some (.inl x3), some (.inl (x4 + 1))]) (show decode mX3_uppermost.2.1 40 = .ok (.iinc 4 1, 3) by decide +kernel) (by decide) rfl rfl ?_
          refine x_goto (pc := 43) (tgt := 5) (show decode mX3_uppermost.2.1 43 = .ok (.goto (-38), 3) by decide +kernel) (by decide) ?_
          exact hR
    · show xG _ _ _ 20 _ [.inl 0] _ _
      refine x_if_eq (pc := 20) (tgt := 40) (show decode mX3_uppermost.2.1 20 = .ok (.ifCond .eq 20, 3) by decide +kernel) (by decide) (by unfold inI; decide) (fun _ => ?_) (fun hc => absurd hc (by decide))
      refine x_iinc (pc := 40) (ls' := [some (.inr (.inr 1)), some (.inr (.inl x1)), none, some (.inl x3), some (.inl (x4 + 1))]) (show decode mX3_uppermost.2.1 40 = .ok (.iinc 4 1, 3) by decide +kernel) (by decide) rfl rfl ?_
      refine x_goto (pc := 43) (tgt := 5) (show decode mX3_uppermost.2.1 43 = .ok (.goto (-38), 3) by decide +kernel) (by decide) ?_
      exact hR
set_option maxRecDepth 4000 in
theorem sg_X3_isAbove_0 {d : Nat} {x1 x2 : Int} {h : xH} {Q : Int → xH → Prop}
    (hR : (0 ≤ x1 ∧ x1 < 30) ∧ (0 ≤ x2 ∧ x2 < 30) ∧ (inI (h 2 x1) ∧ inI (h 2 x2)) ∧ ((h 2 x1) < (h 2 x2) → Q 1 h) ∧ ((h 2 x2) ≤ (h 2 x1) → (0 ≤ x1 ∧ x1 < 30) ∧ (0 ≤ x2 ∧ x2 < 30) ∧ (inI (h 2 x1) ∧ inI (h 2 x2)) ∧ (¬ (h 2 x1) = (h 2 x2) → Q 0 h) ∧ ((h 2 x1) = (h 2 x2) → (0 ≤ x1 ∧ x1 < 30) ∧ (0 ≤ x2 ∧ x2 < 30) ∧ (inI (h 3 x1) ∧ inI (h 3 x2)) ∧ ((h 3 x2) ≤ (h 3 x1) → Q 0 h) ∧ ((h 3 x1) < (h 3 x2) → Q 1 h)))) :
    gI wdC d mX3_isAbove 0 [some (.inr (.inr 1)), some (.inl x1), some (.inl x2)] h Q := by
  unfold gI
  refine x_aload_n (pc := 0) (show decode mX3_isAbove.2.1 0 = .ok (.aload_n 0, 1) by decide +kernel) rfl rfl ?_
  refine x_getR (pc := 1) f3_21 rfl rfl (show decode mX3_isAbove.2.1 1 = .ok (.getfield 21, 3) by decide +kernel) ?_
  refine x_iload_n (pc := 4) (show decode mX3_isAbove.2.1 4 = .ok (.iload_n 1, 1) by decide +kernel) rfl rfl ?_
  obtain ⟨hg, hR⟩ := hR
  refine x_iald (pc := 5) rfl (by decide) hg (show decode mX3_isAbove.2.1 5 = .ok (.iaload, 1) by decide +kernel) ?_
  refine x_aload_n (pc := 6) (show decode mX3_isAbove.2.1 6 = .ok (.aload_n 0, 1) by decide +kernel) rfl rfl ?_
  refine x_getR (pc := 7) f3_21 rfl rfl (show decode mX3_isAbove.2.1 7 = .ok (.getfield 21, 3) by decide +kernel) ?_
  refine x_iload_n (pc := 10) (show decode mX3_isAbove.2.1 10 = .ok (.iload_n 2, 1) by decide +kernel) rfl rfl ?_
  obtain ⟨hg, hR⟩ := hR
  refine x_iald (pc := 11) rfl (by decide) hg (show decode mX3_isAbove.2.1 11 = .ok (.iaload, 1) by decide +kernel) ?_
  obtain ⟨hg, hR⟩ := hR
  refine x_icmp_lt (pc := 12) (tgt := 45) (show decode mX3_isAbove.2.1 12 = .ok (.if_icmp .lt 33, 3) by decide +kernel) (by decide) ⟨hg.1, hg.2⟩ (fun hc => ?_) (fun hc => ?_)
  · replace hR := hR.1 hc
    refine x_iconst (pc := 45) (n := 1) (show decode mX3_isAbove.2.1 45 = .ok (.iconst 1, 1) by decide +kernel) ?_
    refine x_goto (pc := 46) (tgt := 50) (show decode mX3_isAbove.2.1 46 = .ok (.goto 4, 3) by decide +kernel) (by decide) ?_
    exact x_zret (pc := 50) rfl (show decode mX3_isAbove.2.1 50 = .ok (.ireturn, 1) by decide +kernel) (by decide) ⟨_, rfl, hR⟩
  · replace hR := hR.2 hc
    refine x_aload_n (pc := 15) (show decode mX3_isAbove.2.1 15 = .ok (.aload_n 0, 1) by decide +kernel) rfl rfl ?_
    refine x_getR (pc := 16) f3_21 rfl rfl (show decode mX3_isAbove.2.1 16 = .ok (.getfield 21, 3) by decide +kernel) ?_
    refine x_iload_n (pc := 19) (show decode mX3_isAbove.2.1 19 = .ok (.iload_n 1, 1) by decide +kernel) rfl rfl ?_
    obtain ⟨hg, hR⟩ := hR
    refine x_iald (pc := 20) rfl (by decide) hg (show decode mX3_isAbove.2.1 20 = .ok (.iaload, 1) by decide +kernel) ?_
    refine x_aload_n (pc := 21) (show decode mX3_isAbove.2.1 21 = .ok (.aload_n 0, 1) by decide +kernel) rfl rfl ?_
    refine x_getR (pc := 22) f3_21 rfl rfl (show decode mX3_isAbove.2.1 22 = .ok (.getfield 21, 3) by decide +kernel) ?_
    refine x_iload_n (pc := 25) (show decode mX3_isAbove.2.1 25 = .ok (.iload_n 2, 1) by decide +kernel) rfl rfl ?_
    obtain ⟨hg, hR⟩ := hR
    refine x_iald (pc := 26) rfl (by decide) hg (show decode mX3_isAbove.2.1 26 = .ok (.iaload, 1) by decide +kernel) ?_
    obtain ⟨hg, hR⟩ := hR
    refine x_icmp_ne (pc := 27) (tgt := 49) (show decode mX3_isAbove.2.1 27 = .ok (.if_icmp .ne 22, 3) by decide +kernel) (by decide) ⟨hg.1, hg.2⟩ (fun hc => ?_) (fun hc => ?_)
    · replace hR := hR.1 hc
      refine x_iconst (pc := 49) (n := 0) (show decode mX3_isAbove.2.1 49 = .ok (.iconst 0, 1) by decide +kernel) ?_
      exact x_zret (pc := 50) rfl (show decode mX3_isAbove.2.1 50 = .ok (.ireturn, 1) by decide +kernel) (by decide) ⟨_, rfl, hR⟩
    · replace hR := hR.2 hc
      refine x_aload_n (pc := 30) (show decode mX3_isAbove.2.1 30 = .ok (.aload_n 0, 1) by decide +kernel) rfl rfl ?_
      refine x_getR (pc := 31) f3_25 rfl rfl (show decode mX3_isAbove.2.1 31 = .ok (.getfield 25, 3) by decide +kernel) ?_
      refine x_iload_n (pc := 34) (show decode mX3_isAbove.2.1 34 = .ok (.iload_n 1, 1) by decide +kernel) rfl rfl ?_
      obtain ⟨hg, hR⟩ := hR
      refine x_iald (pc := 35) rfl (by decide) hg (show decode mX3_isAbove.2.1 35 = .ok (.iaload, 1) by decide +kernel) ?_
      refine x_aload_n (pc := 36) (show decode mX3_isAbove.2.1 36 = .ok (.aload_n 0, 1) by decide +kernel) rfl rfl ?_
      refine x_getR (pc := 37) f3_25 rfl rfl (show decode mX3_isAbove.2.1 37 = .ok (.getfield 25, 3) by decide +kernel) ?_
      refine x_iload_n (pc := 40) (show decode mX3_isAbove.2.1 40 = .ok (.iload_n 2, 1) by decide +kernel) rfl rfl ?_
      obtain ⟨hg, hR⟩ := hR
      refine x_iald (pc := 41) rfl (by decide) hg (show decode mX3_isAbove.2.1 41 = .ok (.iaload, 1) by decide +kernel) ?_
      obtain ⟨hg, hR⟩ := hR
      refine x_icmp_ge (pc := 42) (tgt := 49) (show decode mX3_isAbove.2.1 42 = .ok (.if_icmp .ge 7, 3) by decide +kernel) (by decide) ⟨hg.1, hg.2⟩ (fun hc => ?_) (fun hc => ?_)
      · replace hR := hR.1 hc
        refine x_iconst (pc := 49) (n := 0) (show decode mX3_isAbove.2.1 49 = .ok (.iconst 0, 1) by decide +kernel) ?_
        exact x_zret (pc := 50) rfl (show decode mX3_isAbove.2.1 50 = .ok (.ireturn, 1) by decide +kernel) (by decide) ⟨_, rfl, hR⟩
      · replace hR := hR.2 hc
        refine x_iconst (pc := 45) (n := 1) (show decode mX3_isAbove.2.1 45 = .ok (.iconst 1, 1) by decide +kernel) ?_
        refine x_goto (pc := 46) (tgt := 50) (show decode mX3_isAbove.2.1 46 = .ok (.goto 4, 3) by decide +kernel) (by decide) ?_
        exact x_zret (pc := 50) rfl (show decode mX3_isAbove.2.1 50 = .ok (.ireturn, 1) by decide +kernel) (by decide) ⟨_, rfl, hR⟩
set_option maxRecDepth 4000 in
theorem sg_X3_flippedFill_0 {d : Nat} {h : xH} {Q : Int → xH → Prop}
    (hR : gI wdC d mX3_flippedFill 4 [some (.inr (.inr 1)), some (.inl 0), some (.inl 0)] h Q) :
    gI wdC d mX3_flippedFill 0 [some (.inr (.inr 1)), none, none] h Q := by
  unfold gI
  refine x_iconst (pc := 0) (n := 0) (show decode mX3_flippedFill.2.1 0 = .ok (.iconst 0, 1) by decide +kernel) ?_
  refine x_istore_n (pc := 1) (ls' := [some (.inr (.inr 1)), some (.inl 0), none]) (show decode mX3_flippedFill.2.1 1 = .ok (.istore_n 1, 1) by decide +kernel) rfl (by decide) rfl ?_
  refine x_iconst (pc := 2) (n := 0) (show decode mX3_flippedFill.2.1 2 = .ok (.iconst 0, 1) by decide +kernel) ?_
  refine x_istore_n (pc := 3) (ls' := [some (.inr (.inr 1)), some (.inl 0), some (.inl 0)]) (show decode mX3_flippedFill.2.1 3 = .ok (.istore_n 2, 1) by decide +kernel) rfl (by decide) rfl ?_
  exact hR
set_option maxRecDepth 4000 in
theorem sg_X3_flippedFill_4 {d : Nat} {x1 x2 : Int} {h : xH} {Q : Int → xH → Prop}
    (hR : (inI x2 ∧ inI (h 1 0)) ∧ ((h 1 0) ≤ x2 → Q x1 h) ∧ (x2 < (h 1 0) → (inI (h 1 1) ∧ 0 ≤ x2 ∧ x2 ≤ 31) ∧ (inI (xandI ((h 1 1) / 2 ^ (Int.toNat x2)) 1)) ∧ (¬ (xandI ((h 1 1) / 2 ^ (Int.toNat x2)) 1) = 1 → gI wdC d mX3_flippedFill 4 [some (.inr (.inr 1)), some (.inl x1), some (.inl (x2 + 1))] h Q) ∧ ((xandI ((h 1 1) / 2 ^ (Int.toNat x2)) 1) = 1 → (0 ≤ (((h 1 0) - 1) - x2) ∧ (((h 1 0) - 1) - x2) ≤ 31) ∧ gI wdC d mX3_flippedFill 4 [some (.inr (.inr 1)), some (.inl (xorI x1 (1 * 2 ^ (Int.toNat (((h 1 0) - 1) - x2))))), some (.inl (x2 + 1))] h Q))) :
    gI wdC d mX3_flippedFill 4 [some (.inr (.inr 1)), some (.inl x1), some (.inl x2)] h Q := by
  unfold gI
  refine x_iload_n (pc := 4) (show decode mX3_flippedFill.2.1 4 = .ok (.iload_n 2, 1) by decide +kernel) rfl rfl ?_
  refine x_aload_n (pc := 5) (show decode mX3_flippedFill.2.1 5 = .ok (.aload_n 0, 1) by decide +kernel) rfl rfl ?_
  refine x_getI (pc := 6) (ki := 0) f3_9 rfl rfl (by decide) rfl (show decode mX3_flippedFill.2.1 6 = .ok (.getfield 9, 3) by decide +kernel) ?_
  obtain ⟨hg, hR⟩ := hR
  refine x_icmp_ge (pc := 9) (tgt := 43) (show decode mX3_flippedFill.2.1 9 = .ok (.if_icmp .ge 34, 3) by decide +kernel) (by decide) ⟨hg.1, hg.2⟩ (fun hc => ?_) (fun hc => ?_)
  · replace hR := hR.1 hc
    refine x_iload_n (pc := 43) (show decode mX3_flippedFill.2.1 43 = .ok (.iload_n 1, 1) by decide +kernel) rfl rfl ?_
    exact x_iret (pc := 44) rfl (show decode mX3_flippedFill.2.1 44 = .ok (.ireturn, 1) by decide +kernel) ⟨_, rfl, hR⟩
  · replace hR := hR.2 hc
    refine x_aload_n (pc := 12) (show decode mX3_flippedFill.2.1 12 = .ok (.aload_n 0, 1) by decide +kernel) rfl rfl ?_
    refine x_getI (pc := 13) (ki := 1) f3_15 rfl rfl (by decide) rfl (show decode mX3_flippedFill.2.1 13 = .ok (.getfield 15, 3) by decide +kernel) ?_
    refine x_iload_n (pc := 16) (show decode mX3_flippedFill.2.1 16 = .ok (.iload_n 2, 1) by decide +kernel) rfl rfl ?_
    obtain ⟨hg, hR⟩ := hR
    refine x_ishr (pc := 17) (show decode mX3_flippedFill.2.1 17 = .ok (.ishr, 1) by decide +kernel) hg ?_
    refine x_iconst (pc := 18) (n := 1) (show decode mX3_flippedFill.2.1 18 = .ok (.iconst 1, 1) by decide +kernel) ?_
    refine x_iand (pc := 19) (show decode mX3_flippedFill.2.1 19 = .ok (.iand, 1) by decide +kernel) ?_
    refine x_iconst (pc := 20) (n := 1) (show decode mX3_flippedFill.2.1 20 = .ok (.iconst 1, 1) by decide +kernel) ?_
    obtain ⟨hg, hR⟩ := hR
    refine x_icmp_ne (pc := 21) (tgt := 37) (show decode mX3_flippedFill.2.1 21 = .ok (.if_icmp .ne 16, 3) by decide +kernel) (by decide) ⟨hg, (by unfold inI; decide)⟩ (fun hc => ?_) (fun hc => ?_)
    · replace hR := hR.1 hc
      refine x_iinc (pc := 37) (ls' := [some (.inr (.inr 1)), some (.inl x1), some (.inl (x2 + 1))]) (show decode mX3_flippedFill.2.1 37 = .ok (.iinc 2 1, 3) by decide +kernel) (by decide) rfl rfl ?_
      refine x_goto (pc := 40) (tgt := 4) (show decode mX3_flippedFill.2.1 40 = .ok (.goto (-36), 3) by decide +kernel) (by decide) ?_
      exact hR
    · replace hR := hR.2 hc
      refine x_iload_n (pc := 24) (show decode mX3_flippedFill.2.1 24 = .ok (.iload_n 1, 1) by decide +kernel) rfl rfl ?_
      refine x_iconst (pc := 25) (n := 1) (show decode mX3_flippedFill.2.1 25 = .ok (.iconst 1, 1) by decide +kernel) ?_
      refine x_aload_n (pc := 26) (show decode mX3_flippedFill.2.1 26 = .ok (.aload_n 0, 1) by decide +kernel) rfl rfl ?_
      refine x_getI (pc := 27) (ki := 0) f3_9 rfl rfl (by decide) rfl (show decode mX3_flippedFill.2.1 27 = .ok (.getfield 9, 3) by decide +kernel) ?_
      refine x_iconst (pc := 30) (n := 1) (show decode mX3_flippedFill.2.1 30 = .ok (.iconst 1, 1) by decide +kernel) ?_
      refine x_isub (pc := 31) (show decode mX3_flippedFill.2.1 31 = .ok (.isub, 1) by decide +kernel) ?_
      refine x_iload_n (pc := 32) (show decode mX3_flippedFill.2.1 32 = .ok (.iload_n 2, 1) by decide +kernel) rfl rfl ?_
      refine x_isub (pc := 33) (show decode mX3_flippedFill.2.1 33 = .ok (.isub, 1) by decide +kernel) ?_
      obtain ⟨hg, hR⟩ := hR
      refine x_ishl (pc := 34) (show decode mX3_flippedFill.2.1 34 = .ok (.ishl, 1) by decide +kernel) hg ?_
      refine x_ior (pc := 35) (show decode mX3_flippedFill.2.1 35 = .ok (.ior, 1) by decide +kernel) ?_
      refine x_istore_n (pc := 36) (ls' := [some (.inr (.inr 1)), some (.inl (xorI x1 (1 * 2 ^ (Int.toNat (((h 1 0) - 1) - x2))))), some (.inl x2)]) (show decode mX3_flippedFill.2.1 36 = .ok (.istore_n 1, 1) by decide +kernel) rfl (by decide) rfl ?_
      refine x_iinc (pc := 37) (ls' := [some (.inr (.inr 1)), some (.inl (xorI x1 (1 * 2 ^ (Int.toNat (((h 1 0) - 1) - x2))))), some (.inl (x2 + 1))]) (show decode mX3_flippedFill.2.1 37 = .ok (.iinc 2 1, 3) by decide +kernel) (by decide) rfl rfl ?_
      refine x_goto (pc := 40) (tgt := 4) (show decode mX3_flippedFill.2.1 40 = .ok (.goto (-36), 3) by decide +kernel) (by decide) ?_
      exact hR
set_option maxRecDepth 4000 in
theorem sg_X3_flippedTurn_0 {d : Nat} {x1 : Int} {h : xH} {Q : Int → xH → Prop} (hd : 1 ≤ d)
    (hR : cI wdC (d - 1) mX3_slotOfTurn [.inl x1] h (fun r2 h1 => cI wdC (d - 1) mX3_rowOfTurn [.inl x1] h1 (fun r4 h3 => cI wdC (d - 1) mX3_turnNumber [.inl (((h 1 0) - 1) - r2), .inl r4] h3 (fun r6 h5 => Q r6 h5)))) :
    gI wdC d mX3_flippedTurn 0 [some (.inr (.inr 1)), some (.inl x1)] h Q := by
  unfold gI
  refine x_aload_n (pc := 0) (show decode mX3_flippedTurn.2.1 0 = .ok (.aload_n 0, 1) by decide +kernel) rfl rfl ?_
  refine x_getI (pc := 1) (ki := 0) f3_9 rfl rfl (by decide) rfl (show decode mX3_flippedTurn.2.1 1 = .ok (.getfield 9, 3) by decide +kernel) ?_
  refine x_iconst (pc := 4) (n := 1) (show decode mX3_flippedTurn.2.1 4 = .ok (.iconst 1, 1) by decide +kernel) ?_
  refine x_isub (pc := 5) (show decode mX3_flippedTurn.2.1 5 = .ok (.isub, 1) by decide +kernel) ?_
  refine x_iload_n (pc := 6) (show decode mX3_flippedTurn.2.1 6 = .ok (.iload_n 1, 1) by decide +kernel) rfl rfl ?_
  refine x_callS (pc := 7) (As := [.inl x1]) (rest := [.inl ((h 1 0) - 1)]) (lk3_63 rfl) sm_X3_slotOfTurn (Nat.le_of_ble_eq_true rfl) (Nat.le_of_ble_eq_true rfl) (show decode mX3_flippedTurn.2.1 7 = .ok (.invokestatic 63, 3) by decide +kernel) hd hR (fun r9 h1 hq => ?_)
  obtain ⟨r2, rfl, hR⟩ := hq
  show xG _ _ _ 10 _ [.inl r2, .inl ((h 1 0) - 1)] _ _
  refine x_isub (pc := 10) (show decode mX3_flippedTurn.2.1 10 = .ok (.isub, 1) by decide +kernel) ?_
  refine x_iload_n (pc := 11) (show decode mX3_flippedTurn.2.1 11 = .ok (.iload_n 1, 1) by decide +kernel) rfl rfl ?_
  refine x_callS (pc := 12) (As := [.inl x1]) (rest := [.inl (((h 1 0) - 1) - r2)]) (lk3_66 rfl) sm_X3_rowOfTurn (Nat.le_of_ble_eq_true rfl) (Nat.le_of_ble_eq_true rfl) (show decode mX3_flippedTurn.2.1 12 = .ok (.invokestatic 66, 3) by decide +kernel) hd hR (fun r9 h3 hq => ?_)
  obtain ⟨r4, rfl, hR⟩ := hq
  show xG _ _ _ 15 _ [.inl r4, .inl (((h 1 0) - 1) - r2)] _ _
  refine x_callS (pc := 15) (As := [.inl (((h 1 0) - 1) - r2), .inl r4]) (rest := []) (lk3_49 rfl) sm_X3_turnNumber (Nat.le_of_ble_eq_true rfl) (Nat.le_of_ble_eq_true rfl) (show decode mX3_flippedTurn.2.1 15 = .ok (.invokestatic 49, 3) by decide +kernel) hd hR (fun r9 h5 hq => ?_)
  obtain ⟨r6, rfl, hR⟩ := hq
  show xG _ _ _ 18 _ [.inl r6] _ _
  exact x_iret (pc := 18) rfl (show decode mX3_flippedTurn.2.1 18 = .ok (.ireturn, 1) by decide +kernel) ⟨_, rfl, hR⟩
set_option maxRecDepth 4000 in
theorem sg_X3_flip_0 {d : Nat} {h : xH} {Q : xH → Prop}
    (hR : gV wdC d mX3_flip 2 [some (.inr (.inr 1)), some (.inl 0)] h Q) :
    gV wdC d mX3_flip 0 [some (.inr (.inr 1)), none] h Q := by
  unfold gV
  refine x_iconst (pc := 0) (n := 0) (show decode mX3_flip.2.1 0 = .ok (.iconst 0, 1) by decide +kernel) ?_
  refine x_istore_n (pc := 1) (ls' := [some (.inr (.inr 1)), some (.inl 0)]) (show decode mX3_flip.2.1 1 = .ok (.istore_n 1, 1) by decide +kernel) rfl (by decide) rfl ?_
  exact hR
set_option maxRecDepth 4000 in
theorem sg_X3_flip_2 {d : Nat} {x1 : Int} {h : xH} {Q : xH → Prop}
    (hR : (inI x1 ∧ inI (h 1 2)) ∧ ((h 1 2) ≤ x1 → gV wdC d mX3_flip 37 [some (.inr (.inr 1)), some (.inl 0)] h Q) ∧ (x1 < (h 1 2) → (0 ≤ x1 ∧ x1 < 30) ∧ (0 ≤ x1 ∧ x1 < 30) ∧ gV wdC d mX3_flip 2 [some (.inr (.inr 1)), some (.inl (x1 + 1))] (xu h 3 x1 (((h 1 0) - 2) - (h 3 x1))) Q)) :
    gV wdC d mX3_flip 2 [some (.inr (.inr 1)), some (.inl x1)] h Q := by
  unfold gV
  refine x_iload_n (pc := 2) (show decode mX3_flip.2.1 2 = .ok (.iload_n 1, 1) by decide +kernel) rfl rfl ?_
  refine x_aload_n (pc := 3) (show decode mX3_flip.2.1 3 = .ok (.aload_n 0, 1) by decide +kernel) rfl rfl ?_
  refine x_getI (pc := 4) (ki := 2) f3_18 rfl rfl (by decide) rfl (show decode mX3_flip.2.1 4 = .ok (.getfield 18, 3) by decide +kernel) ?_
  obtain ⟨hg, hR⟩ := hR
  refine x_icmp_ge (pc := 7) (tgt := 35) (show decode mX3_flip.2.1 7 = .ok (.if_icmp .ge 28, 3) by decide +kernel) (by decide) ⟨hg.1, hg.2⟩ (fun hc => ?_) (fun hc => ?_)
  · replace hR := hR.1 hc
    refine x_iconst (pc := 35) (n := 0) (show decode mX3_flip.2.1 35 = .ok (.iconst 0, 1) by decide +kernel) ?_
    refine x_istore_n (pc := 36) (ls' := [some (.inr (.inr 1)), some (.inl 0)]) (show decode mX3_flip.2.1 36 = .ok (.istore_n 1, 1) by decide +kernel) rfl (by decide) rfl ?_
    exact hR
  · replace hR := hR.2 hc
    refine x_aload_n (pc := 10) (show decode mX3_flip.2.1 10 = .ok (.aload_n 0, 1) by decide +kernel) rfl rfl ?_
    refine x_getR (pc := 11) f3_25 rfl rfl (show decode mX3_flip.2.1 11 = .ok (.getfield 25, 3) by decide +kernel) ?_
    refine x_iload_n (pc := 14) (show decode mX3_flip.2.1 14 = .ok (.iload_n 1, 1) by decide +kernel) rfl rfl ?_
    refine x_aload_n (pc := 15) (show decode mX3_flip.2.1 15 = .ok (.aload_n 0, 1) by decide +kernel) rfl rfl ?_
    refine x_getI (pc := 16) (ki := 0) f3_9 rfl rfl (by decide) rfl (show decode mX3_flip.2.1 16 = .ok (.getfield 9, 3) by decide +kernel) ?_
    refine x_iconst (pc := 19) (n := 2) (show decode mX3_flip.2.1 19 = .ok (.iconst 2, 1) by decide +kernel) ?_
    refine x_isub (pc := 20) (show decode mX3_flip.2.1 20 = .ok (.isub, 1) by decide +kernel) ?_
    refine x_aload_n (pc := 21) (show decode mX3_flip.2.1 21 = .ok (.aload_n 0, 1) by decide +kernel) rfl rfl ?_
    refine x_getR (pc := 22) f3_25 rfl rfl (show decode mX3_flip.2.1 22 = .ok (.getfield 25, 3) by decide +kernel) ?_
    refine x_iload_n (pc := 25) (show decode mX3_flip.2.1 25 = .ok (.iload_n 1, 1) by decide +kernel) rfl rfl ?_
    obtain ⟨hg, hR⟩ := hR
    refine x_iald (pc := 26) rfl (by decide) hg (show decode mX3_flip.2.1 26 = .ok (.iaload, 1) by decide +kernel) ?_
    refine x_isub (pc := 27) (show decode mX3_flip.2.1 27 = .ok (.isub, 1) by decide +kernel) ?_
    obtain ⟨hg, hR⟩ := hR
    refine x_iast (pc := 28) rfl (by decide) hg (show decode mX3_flip.2.1 28 = .ok (.iastore, 1) by decide +kernel) ?_
    refine x_iinc (pc := 29) (ls' := [some (.inr (.inr 1)), some (.inl (x1 + 1))]) (show decode mX3_flip.2.1 29 = .ok (.iinc 1 1, 3) by decide +kernel) (by decide) rfl rfl ?_
    refine x_goto (pc := 32) (tgt := 2) (show decode mX3_flip.2.1 32 = .ok (.goto (-30), 3) by decide +kernel) (by decide) ?_
    exact hR
set_option maxRecDepth 4000 in
theorem sg_X3_flip_37 {d : Nat} {x1 : Int} {h : xH} {Q : xH → Prop} (hd : 1 ≤ d)
    (hR : (inI x1 ∧ inI (h 1 6)) ∧ ((h 1 6) ≤ x1 → cV wdC (d - 1) mX3_sortTurns [.inr (.inr 1)] h (fun h1 => cI wdC (d - 1) mX3_flippedFill [.inr (.inr 1)] h1 (fun r3 h2 => Q (xu h2 1 1 r3)))) ∧ (x1 < (h 1 6) → (0 ≤ x1 ∧ x1 < 10) ∧ cI wdC (d - 1) mX3_flippedTurn [.inr (.inr 1), .inl (h 5 x1)] h (fun r5 h4 => (0 ≤ x1 ∧ x1 < 10) ∧ gV wdC d mX3_flip 37 [some (.inr (.inr 1)), some (.inl (x1 + 1))] (xu h4 5 x1 r5) Q))) :
    gV wdC d mX3_flip 37 [some (.inr (.inr 1)), some (.inl x1)] h Q := by
  unfold gV
  refine x_iload_n (pc := 37) (show decode mX3_flip.2.1 37 = .ok (.iload_n 1, 1) by decide +kernel) rfl rfl ?_
  refine x_aload_n (pc := 38) (show decode mX3_flip.2.1 38 = .ok (.aload_n 0, 1) by decide +kernel) rfl rfl ?_
  refine x_getI (pc := 39) (ki := 6) f3_31 rfl rfl (by decide) rfl (show decode mX3_flip.2.1 39 = .ok (.getfield 31, 3) by decide +kernel) ?_
  obtain ⟨hg, hR⟩ := hR
  refine x_icmp_ge (pc := 42) (tgt := 67) (show decode mX3_flip.2.1 42 = .ok (.if_icmp .ge 25, 3) by decide +kernel) (by decide) ⟨hg.1, hg.2⟩ (fun hc => ?_) (fun hc => ?_)
  · replace hR := hR.1 hc
    refine x_aload_n (pc := 67) (show decode mX3_flip.2.1 67 = .ok (.aload_n 0, 1) by decide +kernel) rfl rfl ?_
    refine x_callV (pc := 68) (As := []) (rest := []) (lk3_60 rfl) im_X3_sortTurns sl_X3_sortTurns rfl rfl rfl (Nat.le_of_ble_eq_true rfl) (Nat.le_of_ble_eq_true rfl) (show decode mX3_flip.2.1 68 = .ok (.invokevirtual 60, 3) by decide +kernel) hd hR (fun r9 h1 hq => ?_)
    obtain ⟨rfl, hR⟩ := hq
    show xG _ _ _ 71 _ [] _ _
    refine x_aload_n (pc := 71) (show decode mX3_flip.2.1 71 = .ok (.aload_n 0, 1) by decide +kernel) rfl rfl ?_
    refine x_aload_n (pc := 72) (show decode mX3_flip.2.1 72 = .ok (.aload_n 0, 1) by decide +kernel) rfl rfl ?_
    refine x_callV (pc := 73) (As := []) (rest := [.inr (.inr 1)]) (lk3_87 rfl) im_X3_flippedFill sl_X3_flippedFill rfl rfl rfl (Nat.le_of_ble_eq_true rfl) (Nat.le_of_ble_eq_true rfl) (show decode mX3_flip.2.1 73 = .ok (.invokevirtual 87, 3) by decide +kernel) hd hR (fun r9 h2 hq => ?_)
    obtain ⟨r3, rfl, hR⟩ := hq
    show xG _ _ _ 76 _ [.inl r3, .inr (.inr 1)] _ _
    refine x_putI (pc := 76) (ki := 1) f3_15 fp3_1 rfl rfl rfl (show decode mX3_flip.2.1 76 = .ok (.putfield 15, 3) by decide +kernel) ?_
    exact x_vret (pc := 79) rfl (show decode mX3_flip.2.1 79 = .ok (.return_, 1) by decide +kernel) ⟨rfl, hR⟩
  · replace hR := hR.2 hc
    refine x_aload_n (pc := 45) (show decode mX3_flip.2.1 45 = .ok (.aload_n 0, 1) by decide +kernel) rfl rfl ?_
    refine x_getR (pc := 46) f3_34 rfl rfl (show decode mX3_flip.2.1 46 = .ok (.getfield 34, 3) by decide +kernel) ?_
    refine x_iload_n (pc := 49) (show decode mX3_flip.2.1 49 = .ok (.iload_n 1, 1) by decide +kernel) rfl rfl ?_
    refine x_aload_n (pc := 50) (show decode mX3_flip.2.1 50 = .ok (.aload_n 0, 1) by decide +kernel) rfl rfl ?_
    refine x_aload_n (pc := 51) (show decode mX3_flip.2.1 51 = .ok (.aload_n 0, 1) by decide +kernel) rfl rfl ?_
    refine x_getR (pc := 52) f3_34 rfl rfl (show decode mX3_flip.2.1 52 = .ok (.getfield 34, 3) by decide +kernel) ?_
    refine x_iload_n (pc := 55) (show decode mX3_flip.2.1 55 = .ok (.iload_n 1, 1) by decide +kernel) rfl rfl ?_
    obtain ⟨hg, hR⟩ := hR
    refine x_iald (pc := 56) rfl (by decide) hg (show decode mX3_flip.2.1 56 = .ok (.iaload, 1) by decide +kernel) ?_
    refine x_callV (pc := 57) (As := [.inl (h 5 x1)]) (rest := [.inl x1, .inr (.inr 5)]) (lk3_84 rfl) im_X3_flippedTurn sl_X3_flippedTurn rfl rfl rfl (Nat.le_of_ble_eq_true rfl) (Nat.le_of_ble_eq_true rfl) (show decode mX3_flip.2.1 57 = .ok (.invokevirtual 84, 3) by decide +kernel) hd hR (fun r9 h4 hq => ?_)
    obtain ⟨r5, rfl, hR⟩ := hq
    show xG _ _ _ 60 _ [.inl r5, .inl x1, .inr (.inr 5)] _ _
    obtain ⟨hg, hR⟩ := hR
    refine x_iast (pc := 60) rfl (by decide) hg (show decode mX3_flip.2.1 60 = .ok (.iastore, 1) by decide +kernel) ?_
    refine x_iinc (pc := 61) (ls' := [some (.inr (.inr 1)), some (.inl (x1 + 1))]) (show decode mX3_flip.2.1 61 = .ok (.iinc 1 1, 3) by decide +kernel) (by decide) rfl rfl ?_
    refine x_goto (pc := 64) (tgt := 37) (show decode mX3_flip.2.1 64 = .ok (.goto (-27), 3) by decide +kernel) (by decide) ?_
    exact hR
set_option maxRecDepth 4000 in
theorem sg_X3_isEven_0 {d : Nat} {h : xH} {Q : Int → xH → Prop} (hd : 1 ≤ d)
    (hR : cI wdC (d - 1) mX3_flippedFill [.inr (.inr 1)] h (fun r2 h1 => (inI r2 ∧ inI (h1 1 1)) ∧ (r2 = (h1 1 1) → gI wdC d mX3_isEven 15 [some (.inr (.inr 1)), some (.inl 0)] h1 Q) ∧ (¬ r2 = (h1 1 1) → Q 0 h1))) :
    gI wdC d mX3_isEven 0 [some (.inr (.inr 1)), none] h Q := by
  unfold gI
  refine x_aload_n (pc := 0) (show decode mX3_isEven.2.1 0 = .ok (.aload_n 0, 1) by decide +kernel) rfl rfl ?_
  refine x_callV (pc := 1) (As := []) (rest := []) (lk3_87 rfl) im_X3_flippedFill sl_X3_flippedFill rfl rfl rfl (Nat.le_of_ble_eq_true rfl) (Nat.le_of_ble_eq_true rfl) (show decode mX3_isEven.2.1 1 = .ok (.invokevirtual 87, 3) by decide +kernel) hd hR (fun r9 h1 hq => ?_)
  obtain ⟨r2, rfl, hR⟩ := hq
  show xG _ _ _ 4 _ [.inl r2] _ _
  refine x_aload_n (pc := 4) (show decode mX3_isEven.2.1 4 = .ok (.aload_n 0, 1) by decide +kernel) rfl rfl ?_
  refine x_getI (pc := 5) (ki := 1) f3_15 rfl rfl (by decide) rfl (show decode mX3_isEven.2.1 5 = .ok (.getfield 15, 3) by decide +kernel) ?_
  obtain ⟨hg, hR⟩ := hR
  refine x_icmp_eq (pc := 8) (tgt := 13) (show decode mX3_isEven.2.1 8 = .ok (.if_icmp .eq 5, 3) by decide +kernel) (by decide) ⟨hg.1, hg.2⟩ (fun hc => ?_) (fun hc => ?_)
  · replace hR := hR.1 hc
    refine x_iconst (pc := 13) (n := 0) (show decode mX3_isEven.2.1 13 = .ok (.iconst 0, 1) by decide +kernel) ?_
    refine x_istore_n (pc := 14) (ls' := [some (.inr (.inr 1)), some (.inl 0)]) (show decode mX3_isEven.2.1 14 = .ok (.istore_n 1, 1) by decide +kernel) rfl (by decide) rfl ?_
    exact hR
  · replace hR := hR.2 hc
    refine x_iconst (pc := 11) (n := 0) (show decode mX3_isEven.2.1 11 = .ok (.iconst 0, 1) by decide +kernel) ?_
    exact x_zret (pc := 12) rfl (show decode mX3_isEven.2.1 12 = .ok (.ireturn, 1) by decide +kernel) (by decide) ⟨_, rfl, hR⟩
set_option maxRecDepth 4000 in
theorem sg_X3_isEven_15 {d : Nat} {x1 : Int} {h : xH} {Q : Int → xH → Prop} (hd : 1 ≤ d)
    (hR : (inI x1 ∧ inI (h 1 6)) ∧ ((h 1 6) ≤ x1 → gI wdC d mX3_isEven 50 [some (.inr (.inr 1)), some (.inl 0)] h Q) ∧ (x1 < (h 1 6) → (0 ≤ x1 ∧ x1 < 10) ∧ cI wdC (d - 1) mX3_flippedTurn [.inr (.inr 1), .inl (h 5 x1)] h (fun r2 h1 => cI wdC (d - 1) mX3_placeOfTurn [.inr (.inr 1), .inl r2] h1 (fun r4 h3 => (inI r4) ∧ (0 ≤ r4 → gI wdC d mX3_isEven 15 [some (.inr (.inr 1)), some (.inl (x1 + 1))] h3 Q) ∧ (r4 < 0 → Q 0 h3))))) :
    gI wdC d mX3_isEven 15 [some (.inr (.inr 1)), some (.inl x1)] h Q := by
  unfold gI
  refine x_iload_n (pc := 15) (show decode mX3_isEven.2.1 15 = .ok (.iload_n 1, 1) by decide +kernel) rfl rfl ?_
  refine x_aload_n (pc := 16) (show decode mX3_isEven.2.1 16 = .ok (.aload_n 0, 1) by decide +kernel) rfl rfl ?_
  refine x_getI (pc := 17) (ki := 6) f3_31 rfl rfl (by decide) rfl (show decode mX3_isEven.2.1 17 = .ok (.getfield 31, 3) by decide +kernel) ?_
  obtain ⟨hg, hR⟩ := hR
  refine x_icmp_ge (pc := 20) (tgt := 48) (show decode mX3_isEven.2.1 20 = .ok (.if_icmp .ge 28, 3) by decide +kernel) (by decide) ⟨hg.1, hg.2⟩ (fun hc => ?_) (fun hc => ?_)
  · replace hR := hR.1 hc
    refine x_iconst (pc := 48) (n := 0) (show decode mX3_isEven.2.1 48 = .ok (.iconst 0, 1) by decide +kernel) ?_
    refine x_istore_n (pc := 49) (ls' := [some (.inr (.inr 1)), some (.inl 0)]) (show decode mX3_isEven.2.1 49 = .ok (.istore_n 1, 1) by decide +kernel) rfl (by decide) rfl ?_
    exact hR
  · replace hR := hR.2 hc
    refine x_aload_n (pc := 23) (show decode mX3_isEven.2.1 23 = .ok (.aload_n 0, 1) by decide +kernel) rfl rfl ?_
    refine x_aload_n (pc := 24) (show decode mX3_isEven.2.1 24 = .ok (.aload_n 0, 1) by decide +kernel) rfl rfl ?_
    refine x_aload_n (pc := 25) (show decode mX3_isEven.2.1 25 = .ok (.aload_n 0, 1) by decide +kernel) rfl rfl ?_
    refine x_getR (pc := 26) f3_34 rfl rfl (show decode mX3_isEven.2.1 26 = .ok (.getfield 34, 3) by decide +kernel) ?_
    refine x_iload_n (pc := 29) (show decode mX3_isEven.2.1 29 = .ok (.iload_n 1, 1) by decide +kernel) rfl rfl ?_
    obtain ⟨hg, hR⟩ := hR
    refine x_iald (pc := 30) rfl (by decide) hg (show decode mX3_isEven.2.1 30 = .ok (.iaload, 1) by decide +kernel) ?_
    refine x_callV (pc := 31) (As := [.inl (h 5 x1)]) (rest := [.inr (.inr 1)]) (lk3_84 rfl) im_X3_flippedTurn sl_X3_flippedTurn rfl rfl rfl (Nat.le_of_ble_eq_true rfl) (Nat.le_of_ble_eq_true rfl) (show decode mX3_isEven.2.1 31 = .ok (.invokevirtual 84, 3) by decide +kernel) hd hR (fun r9 h1 hq => ?_)
    obtain ⟨r2, rfl, hR⟩ := hq
    show xG _ _ _ 34 _ [.inl r2, .inr (.inr 1)] _ _
    refine x_callV (pc := 34) (As := [.inl r2]) (rest := []) (lk3_53 rfl) im_X3_placeOfTurn sl_X3_placeOfTurn rfl rfl rfl (Nat.le_of_ble_eq_true rfl) (Nat.le_of_ble_eq_true rfl) (show decode mX3_isEven.2.1 34 = .ok (.invokevirtual 53, 3) by decide +kernel) hd hR (fun r9 h3 hq => ?_)
    obtain ⟨r4, rfl, hR⟩ := hq
    show xG _ _ _ 37 _ [.inl r4] _ _
    obtain ⟨hg, hR⟩ := hR
    refine x_if_ge (pc := 37) (tgt := 42) (show decode mX3_isEven.2.1 37 = .ok (.ifCond .ge 5, 3) by decide +kernel) (by decide) hg (fun hc => ?_) (fun hc => ?_)
    · replace hR := hR.1 hc
      refine x_iinc (pc := 42) (ls' := [some (.inr (.inr 1)), some (.inl (x1 + 1))]) (show decode mX3_isEven.2.1 42 = .ok (.iinc 1 1, 3) by decide +kernel) (by decide) rfl rfl ?_
      refine x_goto (pc := 45) (tgt := 15) (show decode mX3_isEven.2.1 45 = .ok (.goto (-30), 3) by decide +kernel) (by decide) ?_
      exact hR
    · replace hR := hR.2 hc
      refine x_iconst (pc := 40) (n := 0) (show decode mX3_isEven.2.1 40 = .ok (.iconst 0, 1) by decide +kernel) ?_
      exact x_zret (pc := 41) rfl (show decode mX3_isEven.2.1 41 = .ok (.ireturn, 1) by decide +kernel) (by decide) ⟨_, rfl, hR⟩
set_option maxRecDepth 4000 in
theorem sg_X3_isEven_50 {d : Nat} {x1 : Int} {h : xH} {Q : Int → xH → Prop} (hd : 1 ≤ d)
    (hR : (inI x1 ∧ inI (h 1 2)) ∧ ((h 1 2) ≤ x1 → Q 1 h) ∧ (x1 < (h 1 2) → (0 ≤ x1 ∧ x1 < 30) ∧ (0 ≤ x1 ∧ x1 < 30) ∧ (0 ≤ x1 ∧ x1 < 30) ∧ cB wdC (d - 1) mX3_hasLike [.inr (.inr 1), .inl (h 2 x1), .inl (((h 1 0) - 2) - (h 3 x1)), .inl (h 4 x1)] h (fun h1 => gI wdC d mX3_isEven 50 [some (.inr (.inr 1)), some (.inl (x1 + 1))] h1 Q) (fun h1 => Q 0 h1))) :
    gI wdC d mX3_isEven 50 [some (.inr (.inr 1)), some (.inl x1)] h Q := by
  unfold gI
  refine x_iload_n (pc := 50) (show decode mX3_isEven.2.1 50 = .ok (.iload_n 1, 1) by decide +kernel) rfl rfl ?_
  refine x_aload_n (pc := 51) (show decode mX3_isEven.2.1 51 = .ok (.aload_n 0, 1) by decide +kernel) rfl rfl ?_
  refine x_getI (pc := 52) (ki := 2) f3_18 rfl rfl (by decide) rfl (show decode mX3_isEven.2.1 52 = .ok (.getfield 18, 3) by decide +kernel) ?_
  obtain ⟨hg, hR⟩ := hR
  refine x_icmp_ge (pc := 55) (tgt := 98) (show decode mX3_isEven.2.1 55 = .ok (.if_icmp .ge 43, 3) by decide +kernel) (by decide) ⟨hg.1, hg.2⟩ (fun hc => ?_) (fun hc => ?_)
  · replace hR := hR.1 hc
    refine x_iconst (pc := 98) (n := 1) (show decode mX3_isEven.2.1 98 = .ok (.iconst 1, 1) by decide +kernel) ?_
    exact x_zret (pc := 99) rfl (show decode mX3_isEven.2.1 99 = .ok (.ireturn, 1) by decide +kernel) (by decide) ⟨_, rfl, hR⟩
  · replace hR := hR.2 hc
    refine x_aload_n (pc := 58) (show decode mX3_isEven.2.1 58 = .ok (.aload_n 0, 1) by decide +kernel) rfl rfl ?_
    refine x_aload_n (pc := 59) (show decode mX3_isEven.2.1 59 = .ok (.aload_n 0, 1) by decide +kernel) rfl rfl ?_
    refine x_getR (pc := 60) f3_21 rfl rfl (show decode mX3_isEven.2.1 60 = .ok (.getfield 21, 3) by decide +kernel) ?_
    refine x_iload_n (pc := 63) (show decode mX3_isEven.2.1 63 = .ok (.iload_n 1, 1) by decide +kernel) rfl rfl ?_
    obtain ⟨hg, hR⟩ := hR
    refine x_iald (pc := 64) rfl (by decide) hg (show decode mX3_isEven.2.1 64 = .ok (.iaload, 1) by decide +kernel) ?_
    refine x_aload_n (pc := 65) (show decode mX3_isEven.2.1 65 = .ok (.aload_n 0, 1) by decide +kernel) rfl rfl ?_
    refine x_getI (pc := 66) (ki := 0) f3_9 rfl rfl (by decide) rfl (show decode mX3_isEven.2.1 66 = .ok (.getfield 9, 3) by decide +kernel) ?_
    refine x_iconst (pc := 69) (n := 2) (show decode mX3_isEven.2.1 69 = .ok (.iconst 2, 1) by decide +kernel) ?_
    refine x_isub (pc := 70) (show decode mX3_isEven.2.1 70 = .ok (.isub, 1) by decide +kernel) ?_
    refine x_aload_n (pc := 71) (show decode mX3_isEven.2.1 71 = .ok (.aload_n 0, 1) by decide +kernel) rfl rfl ?_
    refine x_getR (pc := 72) f3_25 rfl rfl (show decode mX3_isEven.2.1 72 = .ok (.getfield 25, 3) by decide +kernel) ?_
    refine x_iload_n (pc := 75) (show decode mX3_isEven.2.1 75 = .ok (.iload_n 1, 1) by decide +kernel) rfl rfl ?_
    obtain ⟨hg, hR⟩ := hR
    refine x_iald (pc := 76) rfl (by decide) hg (show decode mX3_isEven.2.1 76 = .ok (.iaload, 1) by decide +kernel) ?_
    refine x_isub (pc := 77) (show decode mX3_isEven.2.1 77 = .ok (.isub, 1) by decide +kernel) ?_
    refine x_aload_n (pc := 78) (show decode mX3_isEven.2.1 78 = .ok (.aload_n 0, 1) by decide +kernel) rfl rfl ?_
    refine x_getR (pc := 79) f3_28 rfl rfl (show decode mX3_isEven.2.1 79 = .ok (.getfield 28, 3) by decide +kernel) ?_
    refine x_iload_n (pc := 82) (show decode mX3_isEven.2.1 82 = .ok (.iload_n 1, 1) by decide +kernel) rfl rfl ?_
    obtain ⟨hg, hR⟩ := hR
    refine x_iald (pc := 83) rfl (by decide) hg (show decode mX3_isEven.2.1 83 = .ok (.iaload, 1) by decide +kernel) ?_
    refine x_callV (pc := 84) (As := [.inl (h 2 x1), .inl (((h 1 0) - 2) - (h 3 x1)), .inl (h 4 x1)]) (rest := []) (lk3_91 rfl) im_X3_hasLike sl_X3_hasLike rfl rfl rfl (Nat.le_of_ble_eq_true rfl) (Nat.le_of_ble_eq_true rfl) (show decode mX3_isEven.2.1 84 = .ok (.invokevirtual 91, 3) by decide +kernel) hd hR (fun r9 h1 hq => ?_)
    obtain ⟨r8, rfl, hq⟩ := hq
    rcases hq with ⟨rfl, hR⟩ | ⟨rfl, hR⟩
    · show xG _ _ _ 87 _ [.inl 1] _ _
      refine x_if_ne (pc := 87) (tgt := 92) (show decode mX3_isEven.2.1 87 = .ok (.ifCond .ne 5, 3) by decide +kernel) (by decide) (by unfold inI; decide) (fun _ => ?_) (fun hc => absurd hc (by decide))
      refine x_iinc (pc := 92) (ls' := [some (.inr (.inr 1)), some (.inl (x1 + 1))]) (show decode mX3_isEven.2.1 92 = .ok (.iinc 1 1, 3) by decide +kernel) (by decide) rfl rfl ?_
      refine x_goto (pc := 95) (tgt := 50) (show decode mX3_isEven.2.1 95 = .ok (.goto (-45), 3) by decide +kernel) (by decide) ?_
      exact hR
    · show xG _ _ _ 87 _ [.inl 0] _ _
      refine x_if_ne (pc := 87) (tgt := 92) (show decode mX3_isEven.2.1 87 = .ok (.ifCond .ne 5, 3) by decide +kernel) (by decide) (by unfold inI; decide) (fun hc => absurd hc (by decide)) (fun _ => ?_)
      refine x_iconst (pc := 90) (n := 0) (show decode mX3_isEven.2.1 90 = .ok (.iconst 0, 1) by decide +kernel) ?_
      exact x_zret (pc := 91) rfl (show decode mX3_isEven.2.1 91 = .ok (.ireturn, 1) by decide +kernel) (by decide) ⟨_, rfl, hR⟩
set_option maxRecDepth 4000 in
theorem sg_X3_hasLike_0 {d : Nat} {x1 x2 x3 : Int} {h : xH} {Q : Int → xH → Prop}
    (hR : gI wdC d mX3_hasLike 3 [some (.inr (.inr 1)), some (.inl x1), some (.inl x2), some (.inl x3), some (.inl 0)] h Q) :
    gI wdC d mX3_hasLike 0 [some (.inr (.inr 1)), some (.inl x1), some (.inl x2), some (.inl x3), none] h Q := by
  unfold gI
  refine x_iconst (pc := 0) (n := 0) (show decode mX3_hasLike.2.1 0 = .ok (.iconst 0, 1) by decide +kernel) ?_
  refine x_istore (pc := 1) (ls' := [some (.inr (.inr 1)), some (.inl x1), some (.inl x2), some (.inl x3), some (.inl 0)]) (show decode mX3_hasLike.2.1 1 = .ok (.istore 4, 2) by decide +kernel) (by decide) rfl ?_
  exact hR
set_option maxRecDepth 4000 in
theorem sg_X3_hasLike_3 {d : Nat} {x1 x2 x3 x4 : Int} {h : xH} {Q : Int → xH → Prop}
    (hR : (inI x4 ∧ inI (h 1 2)) ∧ ((h 1 2) ≤ x4 → Q 0 h) ∧ (x4 < (h 1 2) → (0 ≤ x4 ∧ x4 < 30) ∧ (inI (h 2 x4) ∧ inI x1) ∧ (¬ (h 2 x4) = x1 → gI wdC d mX3_hasLike 3 [some (.inr (.inr 1)), some (.inl x1), some (.inl x2), some (.inl x3), some (.inl (x4 + 1))] h Q) ∧ ((h 2 x4) = x1 → (0 ≤ x4 ∧ x4 < 30) ∧ (inI (h 3 x4) ∧ inI x2) ∧ (¬ (h 3 x4) = x2 → gI wdC d mX3_hasLike 3 [some (.inr (.inr 1)), some (.inl x1), some (.inl x2), some (.inl x3), some (.inl (x4 + 1))] h Q) ∧ ((h 3 x4) = x2 → (0 ≤ x4 ∧ x4 < 30) ∧ (inI (h 4 x4) ∧ inI x3) ∧ (¬ (h 4 x4) = x3 → gI wdC d mX3_hasLike 3 [some (.inr (.inr 1)), some (.inl x1), some (.inl x2), some (.inl x3), some (.inl (x4 + 1))] h Q) ∧ ((h 4 x4) = x3 → Q 1 h))))) :
    gI wdC d mX3_hasLike 3 [some (.inr (.inr 1)), some (.inl x1), some (.inl x2), some (.inl x3), some (.inl x4)] h Q := by
  unfold gI
  refine x_iload (pc := 3) (show decode mX3_hasLike.2.1 3 = .ok (.iload 4, 2) by decide +kernel) rfl ?_
  refine x_aload_n (pc := 5) (show decode mX3_hasLike.2.1 5 = .ok (.aload_n 0, 1) by decide +kernel) rfl rfl ?_
  refine x_getI (pc := 6) (ki := 2) f3_18 rfl rfl (by decide) rfl (show decode mX3_hasLike.2.1 6 = .ok (.getfield 18, 3) by decide +kernel) ?_
  obtain ⟨hg, hR⟩ := hR
  refine x_icmp_ge (pc := 9) (tgt := 53) (show decode mX3_hasLike.2.1 9 = .ok (.if_icmp .ge 44, 3) by decide +kernel) (by decide) ⟨hg.1, hg.2⟩ (fun hc => ?_) (fun hc => ?_)
  · replace hR := hR.1 hc
    refine x_iconst (pc := 53) (n := 0) (show decode mX3_hasLike.2.1 53 = .ok (.iconst 0, 1) by decide +kernel) ?_
    exact x_zret (pc := 54) rfl (show decode mX3_hasLike.2.1 54 = .ok (.ireturn, 1) by decide +kernel) (by decide) ⟨_, rfl, hR⟩
  · replace hR := hR.2 hc
    refine x_aload_n (pc := 12) (show decode mX3_hasLike.2.1 12 = .ok (.aload_n 0, 1) by decide +kernel) rfl rfl ?_
    refine x_getR (pc := 13) f3_21 rfl rfl (show decode mX3_hasLike.2.1 13 = .ok (.getfield 21, 3) by decide +kernel) ?_
    refine x_iload (pc := 16) (show decode mX3_hasLike.2.1 16 = .ok (.iload 4, 2) by decide +kernel) rfl ?_
    obtain ⟨hg, hR⟩ := hR
    refine x_iald (pc := 18) rfl (by decide) hg (show decode mX3_hasLike.2.1 18 = .ok (.iaload, 1) by decide +kernel) ?_
    refine x_iload_n (pc := 19) (show decode mX3_hasLike.2.1 19 = .ok (.iload_n 1, 1) by decide +kernel) rfl rfl ?_
    obtain ⟨hg, hR⟩ := hR
    refine x_icmp_ne (pc := 20) (tgt := 47) (show decode mX3_hasLike.2.1 20 = .ok (.if_icmp .ne 27, 3) by decide +kernel) (by decide) ⟨hg.1, hg.2⟩ (fun hc => ?_) (fun hc => ?_)
    · replace hR := hR.1 hc
      refine x_iinc (pc := 47) (ls' := [some (.inr (.inr 1)), some (.inl x1), some (.inl x2), some (.inl x3), some (.inl (x4 + 1))]) (show decode mX3_hasLike.2.1 47 = .ok (.iinc 4 1, 3) by decide +kernel) (by decide) rfl rfl ?_
      refine x_goto (pc := 50) (tgt := 3) (show decode mX3_hasLike.2.1 50 = .ok (.goto (-47), 3) by decide +kernel) (by decide) ?_
      exact hR
    · replace hR := hR.2 hc
      refine x_aload_n (pc := 23) (show decode mX3_hasLike.2.1 23 = .ok (.aload_n 0, 1) by decide +kernel) rfl rfl ?_
      refine x_getR (pc := 24) f3_25 rfl rfl (show decode mX3_hasLike.2.1 24 = .ok (.getfield 25, 3) by decide +kernel) ?_
      refine x_iload (pc := 27) (show decode mX3_hasLike.2.1 27 = .ok (.iload 4, 2) by decide +kernel) rfl ?_
      obtain ⟨hg, hR⟩ := hR
      refine x_iald (pc := 29) rfl (by decide) hg (show decode mX3_hasLike.2.1 29 = .ok (.iaload, 1) by decide +kernel) ?_
      refine x_iload_n (pc := 30) (show decode mX3_hasLike.2.1 30 = .ok (.iload_n 2, 1) by decide +kernel) rfl rfl ?_
      obtain ⟨hg, hR⟩ := hR
      refine x_icmp_ne (pc := 31) (tgt := 47) (show decode mX3_hasLike.2.1 31 = .ok (.if_icmp .ne 16, 3) by decide +kernel) (by decide) ⟨hg.1, hg.2⟩ (fun hc => ?_) (fun hc => ?_)
      · replace hR := hR.1 hc
        refine x_iinc (pc := 47) (ls' := [some (.inr (.inr 1)), some (.inl x1), some (.inl x2), some (.inl x3), some (.inl (x4 + 1))]) (show decode mX3_hasLike.2.1 47 = .ok (.iinc 4 1, 3) by decide +kernel) (by decide) rfl rfl ?_
        refine x_goto (pc := 50) (tgt := 3) (show decode mX3_hasLike.2.1 50 = .ok (.goto (-47), 3) by decide +kernel) (by decide) ?_
        exact hR
      · replace hR := hR.2 hc
        refine x_aload_n (pc := 34) (show decode mX3_hasLike.2.1 34 = .ok (.aload_n 0, 1) by decide +kernel) rfl rfl ?_
        refine x_getR (pc := 35) f3_28 rfl rfl (show decode mX3_hasLike.2.1 35 = .ok (.getfield 28, 3) by decide +kernel) ?_
        refine x_iload (pc := 38) (show decode mX3_hasLike.2.1 38 = .ok (.iload 4, 2) by decide +kernel) rfl ?_
        obtain ⟨hg, hR⟩ := hR
        refine x_iald (pc := 40) rfl (by decide) hg (show decode mX3_hasLike.2.1 40 = .ok (.iaload, 1) by decide +kernel) ?_
        refine x_iload_n (pc := 41) (show decode mX3_hasLike.2.1 41 = .ok (.iload_n 3, 1) by decide +kernel) rfl rfl ?_
        obtain ⟨hg, hR⟩ := hR
        refine x_icmp_ne (pc := 42) (tgt := 47) (show decode mX3_hasLike.2.1 42 = .ok (.if_icmp .ne 5, 3) by decide +kernel) (by decide) ⟨hg.1, hg.2⟩ (fun hc => ?_) (fun hc => ?_)
        · replace hR := hR.1 hc
          refine x_iinc (pc := 47) (ls' := [some (.inr (.inr 1)), some (.inl x1), some (.inl x2), some (.inl x3), some (.inl (x4 + 1))]) (show decode mX3_hasLike.2.1 47 = .ok (.iinc 4 1, 3) by decide +kernel) (by decide) rfl rfl ?_
          refine x_goto (pc := 50) (tgt := 3) (show decode mX3_hasLike.2.1 50 = .ok (.goto (-47), 3) by decide +kernel) (by decide) ?_
          exact hR
        · replace hR := hR.2 hc
          refine x_iconst (pc := 45) (n := 1) (show decode mX3_hasLike.2.1 45 = .ok (.iconst 1, 1) by decide +kernel) ?_
          exact x_zret (pc := 46) rfl (show decode mX3_hasLike.2.1 46 = .ok (.ireturn, 1) by decide +kernel) (by decide) ⟨_, rfl, hR⟩
set_option maxRecDepth 4000 in
theorem sg_X4_isList_0 {d : Nat} {x1 : Int} {h : xH} {Q : Int → xH → Prop}
    (hR : (inI x1) ∧ (x1 < 0 → Q 0 h) ∧ (0 ≤ x1 → (inI x1) ∧ (4 ≤ x1 → Q 0 h) ∧ (x1 < 4 → Q 1 h))) :
    gI wdC d mX4_isList 0 [some (.inr (.inr 50)), some (.inl x1)] h Q := by
  unfold gI
  refine x_iload_n (pc := 0) (show decode mX4_isList.2.1 0 = .ok (.iload_n 1, 1) by decide +kernel) rfl rfl ?_
  obtain ⟨hg, hR⟩ := hR
  refine x_if_lt (pc := 1) (tgt := 13) (show decode mX4_isList.2.1 1 = .ok (.ifCond .lt 12, 3) by decide +kernel) (by decide) hg (fun hc => ?_) (fun hc => ?_)
  · replace hR := hR.1 hc
    refine x_iconst (pc := 13) (n := 0) (show decode mX4_isList.2.1 13 = .ok (.iconst 0, 1) by decide +kernel) ?_
    exact x_zret (pc := 14) rfl (show decode mX4_isList.2.1 14 = .ok (.ireturn, 1) by decide +kernel) (by decide) ⟨_, rfl, hR⟩
  · replace hR := hR.2 hc
    refine x_iload_n (pc := 4) (show decode mX4_isList.2.1 4 = .ok (.iload_n 1, 1) by decide +kernel) rfl rfl ?_
    refine x_iconst (pc := 5) (n := 4) (show decode mX4_isList.2.1 5 = .ok (.iconst 4, 1) by decide +kernel) ?_
    obtain ⟨hg, hR⟩ := hR
    refine x_icmp_ge (pc := 6) (tgt := 13) (show decode mX4_isList.2.1 6 = .ok (.if_icmp .ge 7, 3) by decide +kernel) (by decide) ⟨hg, (by unfold inI; decide)⟩ (fun hc => ?_) (fun hc => ?_)
    · replace hR := hR.1 hc
      refine x_iconst (pc := 13) (n := 0) (show decode mX4_isList.2.1 13 = .ok (.iconst 0, 1) by decide +kernel) ?_
      exact x_zret (pc := 14) rfl (show decode mX4_isList.2.1 14 = .ok (.ireturn, 1) by decide +kernel) (by decide) ⟨_, rfl, hR⟩
    · replace hR := hR.2 hc
      refine x_iconst (pc := 9) (n := 1) (show decode mX4_isList.2.1 9 = .ok (.iconst 1, 1) by decide +kernel) ?_
      refine x_goto (pc := 10) (tgt := 14) (show decode mX4_isList.2.1 10 = .ok (.goto 4, 3) by decide +kernel) (by decide) ?_
      exact x_zret (pc := 14) rfl (show decode mX4_isList.2.1 14 = .ok (.ireturn, 1) by decide +kernel) (by decide) ⟨_, rfl, hR⟩
set_option maxRecDepth 4000 in
theorem sg_X4_holds_0 {d : Nat} {x1 : Int} {h : xH} {Q : Int → xH → Prop}
    (hR : (0 ≤ x1 ∧ x1 < 4) ∧ (inI (h 51 x1)) ∧ ((h 51 x1) = (-1) → Q 0 h) ∧ (¬ (h 51 x1) = (-1) → Q 1 h)) :
    gI wdC d mX4_holds 0 [some (.inr (.inr 50)), some (.inl x1)] h Q := by
  unfold gI
  refine x_aload_n (pc := 0) (show decode mX4_holds.2.1 0 = .ok (.aload_n 0, 1) by decide +kernel) rfl rfl ?_
  refine x_getR (pc := 1) f4_11 rfl rfl (show decode mX4_holds.2.1 1 = .ok (.getfield 11, 3) by decide +kernel) ?_
  refine x_iload_n (pc := 4) (show decode mX4_holds.2.1 4 = .ok (.iload_n 1, 1) by decide +kernel) rfl rfl ?_
  obtain ⟨hg, hR⟩ := hR
  refine x_iald (pc := 5) rfl (by decide) hg (show decode mX4_holds.2.1 5 = .ok (.iaload, 1) by decide +kernel) ?_
  refine x_iconst (pc := 6) (n := (-1)) (show decode mX4_holds.2.1 6 = .ok (.iconst (-1), 1) by decide +kernel) ?_
  obtain ⟨hg, hR⟩ := hR
  refine x_icmp_eq (pc := 7) (tgt := 14) (show decode mX4_holds.2.1 7 = .ok (.if_icmp .eq 7, 3) by decide +kernel) (by decide) ⟨hg, (by unfold inI; decide)⟩ (fun hc => ?_) (fun hc => ?_)
  · replace hR := hR.1 hc
    refine x_iconst (pc := 14) (n := 0) (show decode mX4_holds.2.1 14 = .ok (.iconst 0, 1) by decide +kernel) ?_
    exact x_zret (pc := 15) rfl (show decode mX4_holds.2.1 15 = .ok (.ireturn, 1) by decide +kernel) (by decide) ⟨_, rfl, hR⟩
  · replace hR := hR.2 hc
    refine x_iconst (pc := 10) (n := 1) (show decode mX4_holds.2.1 10 = .ok (.iconst 1, 1) by decide +kernel) ?_
    refine x_goto (pc := 11) (tgt := 15) (show decode mX4_holds.2.1 11 = .ok (.goto 4, 3) by decide +kernel) (by decide) ?_
    exact x_zret (pc := 15) rfl (show decode mX4_holds.2.1 15 = .ok (.ireturn, 1) by decide +kernel) (by decide) ⟨_, rfl, hR⟩
set_option maxRecDepth 4000 in
theorem sg_X4_hasPlace_0 {d : Nat} {x1 x2 : Int} {h : xH} {Q : Int → xH → Prop}
    (hR : (inI x2) ∧ (x2 < 0 → Q 0 h) ∧ (0 ≤ x2 → (0 ≤ x1 ∧ x1 < 4) ∧ (inI x2 ∧ inI (h 51 x1)) ∧ ((h 51 x1) ≤ x2 → Q 0 h) ∧ (x2 < (h 51 x1) → Q 1 h))) :
    gI wdC d mX4_hasPlace 0 [some (.inr (.inr 50)), some (.inl x1), some (.inl x2)] h Q := by
  unfold gI
  refine x_iload_n (pc := 0) (show decode mX4_hasPlace.2.1 0 = .ok (.iload_n 2, 1) by decide +kernel) rfl rfl ?_
  obtain ⟨hg, hR⟩ := hR
  refine x_if_lt (pc := 1) (tgt := 18) (show decode mX4_hasPlace.2.1 1 = .ok (.ifCond .lt 17, 3) by decide +kernel) (by decide) hg (fun hc => ?_) (fun hc => ?_)
  · replace hR := hR.1 hc
    refine x_iconst (pc := 18) (n := 0) (show decode mX4_hasPlace.2.1 18 = .ok (.iconst 0, 1) by decide +kernel) ?_
    exact x_zret (pc := 19) rfl (show decode mX4_hasPlace.2.1 19 = .ok (.ireturn, 1) by decide +kernel) (by decide) ⟨_, rfl, hR⟩
  · replace hR := hR.2 hc
    refine x_iload_n (pc := 4) (show decode mX4_hasPlace.2.1 4 = .ok (.iload_n 2, 1) by decide +kernel) rfl rfl ?_
    refine x_aload_n (pc := 5) (show decode mX4_hasPlace.2.1 5 = .ok (.aload_n 0, 1) by decide +kernel) rfl rfl ?_
    refine x_getR (pc := 6) f4_11 rfl rfl (show decode mX4_hasPlace.2.1 6 = .ok (.getfield 11, 3) by decide +kernel) ?_
    refine x_iload_n (pc := 9) (show decode mX4_hasPlace.2.1 9 = .ok (.iload_n 1, 1) by decide +kernel) rfl rfl ?_
    obtain ⟨hg, hR⟩ := hR
    refine x_iald (pc := 10) rfl (by decide) hg (show decode mX4_hasPlace.2.1 10 = .ok (.iaload, 1) by decide +kernel) ?_
    obtain ⟨hg, hR⟩ := hR
    refine x_icmp_ge (pc := 11) (tgt := 18) (show decode mX4_hasPlace.2.1 11 = .ok (.if_icmp .ge 7, 3) by decide +kernel) (by decide) ⟨hg.1, hg.2⟩ (fun hc => ?_) (fun hc => ?_)
    · replace hR := hR.1 hc
      refine x_iconst (pc := 18) (n := 0) (show decode mX4_hasPlace.2.1 18 = .ok (.iconst 0, 1) by decide +kernel) ?_
      exact x_zret (pc := 19) rfl (show decode mX4_hasPlace.2.1 19 = .ok (.ireturn, 1) by decide +kernel) (by decide) ⟨_, rfl, hR⟩
    · replace hR := hR.2 hc
      refine x_iconst (pc := 14) (n := 1) (show decode mX4_hasPlace.2.1 14 = .ok (.iconst 1, 1) by decide +kernel) ?_
      refine x_goto (pc := 15) (tgt := 19) (show decode mX4_hasPlace.2.1 15 = .ok (.goto 4, 3) by decide +kernel) (by decide) ?_
      exact x_zret (pc := 19) rfl (show decode mX4_hasPlace.2.1 19 = .ok (.ireturn, 1) by decide +kernel) (by decide) ⟨_, rfl, hR⟩
set_option maxRecDepth 4000 in
theorem sg_X4_begin_0 {d : Nat} {x1 x2 : Int} {h : xH} {Q : xH → Prop}
    (hR : (0 ≤ x1 ∧ x1 < 4) ∧ gV wdC d mX4_begin 9 [some (.inr (.inr 50)), some (.inl x1), some (.inl x2), some (.inl 0)] (xu h 51 x1 x2) Q) :
    gV wdC d mX4_begin 0 [some (.inr (.inr 50)), some (.inl x1), some (.inl x2), none] h Q := by
  unfold gV
  refine x_aload_n (pc := 0) (show decode mX4_begin.2.1 0 = .ok (.aload_n 0, 1) by decide +kernel) rfl rfl ?_
  refine x_getR (pc := 1) f4_11 rfl rfl (show decode mX4_begin.2.1 1 = .ok (.getfield 11, 3) by decide +kernel) ?_
  refine x_iload_n (pc := 4) (show decode mX4_begin.2.1 4 = .ok (.iload_n 1, 1) by decide +kernel) rfl rfl ?_
  refine x_iload_n (pc := 5) (show decode mX4_begin.2.1 5 = .ok (.iload_n 2, 1) by decide +kernel) rfl rfl ?_
  obtain ⟨hg, hR⟩ := hR
  refine x_iast (pc := 6) rfl (by decide) hg (show decode mX4_begin.2.1 6 = .ok (.iastore, 1) by decide +kernel) ?_
  refine x_iconst (pc := 7) (n := 0) (show decode mX4_begin.2.1 7 = .ok (.iconst 0, 1) by decide +kernel) ?_
  refine x_istore_n (pc := 8) (ls' := [some (.inr (.inr 50)), some (.inl x1), some (.inl x2), some (.inl 0)]) (show decode mX4_begin.2.1 8 = .ok (.istore_n 3, 1) by decide +kernel) rfl (by decide) rfl ?_
  exact hR
set_option maxRecDepth 4000 in
theorem sg_X4_begin_9 {d : Nat} {x1 x2 x3 : Int} {h : xH} {Q : xH → Prop} (hd : 1 ≤ d)
    (hR : (inI x3 ∧ inI x2) ∧ (x2 ≤ x3 → Q h) ∧ (x3 < x2 → cV wdC (d - 1) mX4_put [.inr (.inr 50), .inl x1, .inl x3, .inr (.inl 0)] h (fun h1 => gV wdC d mX4_begin 9 [some (.inr (.inr 50)), some (.inl x1), some (.inl x2), some (.inl (x3 + 1))] h1 Q))) :
    gV wdC d mX4_begin 9 [some (.inr (.inr 50)), some (.inl x1), some (.inl x2), some (.inl x3)] h Q := by
  unfold gV
  refine x_iload_n (pc := 9) (show decode mX4_begin.2.1 9 = .ok (.iload_n 3, 1) by decide +kernel) rfl rfl ?_
  refine x_iload_n (pc := 10) (show decode mX4_begin.2.1 10 = .ok (.iload_n 2, 1) by decide +kernel) rfl rfl ?_
  obtain ⟨hg, hR⟩ := hR
  refine x_icmp_ge (pc := 11) (tgt := 27) (show decode mX4_begin.2.1 11 = .ok (.if_icmp .ge 16, 3) by decide +kernel) (by decide) ⟨hg.1, hg.2⟩ (fun hc => ?_) (fun hc => ?_)
  · replace hR := hR.1 hc
    exact x_vret (pc := 27) rfl (show decode mX4_begin.2.1 27 = .ok (.return_, 1) by decide +kernel) ⟨rfl, hR⟩
  · replace hR := hR.2 hc
    refine x_aload_n (pc := 14) (show decode mX4_begin.2.1 14 = .ok (.aload_n 0, 1) by decide +kernel) rfl rfl ?_
    refine x_iload_n (pc := 15) (show decode mX4_begin.2.1 15 = .ok (.iload_n 1, 1) by decide +kernel) rfl rfl ?_
    refine x_iload_n (pc := 16) (show decode mX4_begin.2.1 16 = .ok (.iload_n 3, 1) by decide +kernel) rfl rfl ?_
    refine x_lconst (pc := 17) (v := 0) (show decode mX4_begin.2.1 17 = .ok (.lconst 0, 1) by decide +kernel) rfl ?_
    refine x_callV (pc := 18) (As := [.inl x1, .inl x3, .inr (.inl 0)]) (rest := []) (lk4_19 rfl) im_X4_put sl_X4_put rfl rfl rfl (Nat.le_of_ble_eq_true rfl) (Nat.le_of_ble_eq_true rfl) (show decode mX4_begin.2.1 18 = .ok (.invokevirtual 19, 3) by decide +kernel) hd hR (fun r9 h1 hq => ?_)
    obtain ⟨rfl, hR⟩ := hq
    show xG _ _ _ 21 _ [] _ _
    refine x_iinc (pc := 21) (ls' := [some (.inr (.inr 50)), some (.inl x1), some (.inl x2), some (.inl (x3 + 1))]) (show decode mX4_begin.2.1 21 = .ok (.iinc 3 1, 3) by decide +kernel) (by decide) rfl rfl ?_
    refine x_goto (pc := 24) (tgt := 9) (show decode mX4_begin.2.1 24 = .ok (.goto (-15), 3) by decide +kernel) (by decide) ?_
    exact hR
set_option maxRecDepth 4000 in
theorem sg_X4_put_0 {d : Nat} {x1 x2 x3 : Int} {h : xH} {Q : xH → Prop}
    (hR : (0 ≤ ((x1 * 30) + x2) ∧ ((x1 * 30) + x2) < 120) ∧ Q (xu h 52 ((x1 * 30) + x2) x3)) :
    gV wdC d mX4_put 0 [some (.inr (.inr 50)), some (.inl x1), some (.inl x2), some (.inr (.inl x3)), none] h Q := by
  unfold gV
  refine x_aload_n (pc := 0) (show decode mX4_put.2.1 0 = .ok (.aload_n 0, 1) by decide +kernel) rfl rfl ?_
  refine x_getR (pc := 1) f4_15 rfl rfl (show decode mX4_put.2.1 1 = .ok (.getfield 15, 3) by decide +kernel) ?_
  refine x_iload_n (pc := 4) (show decode mX4_put.2.1 4 = .ok (.iload_n 1, 1) by decide +kernel) rfl rfl ?_
  refine x_bipush (pc := 5) (n := 30) (show decode mX4_put.2.1 5 = .ok (.bipush 30, 2) by decide +kernel) rfl ?_
  refine x_imul (pc := 7) (show decode mX4_put.2.1 7 = .ok (.imul, 1) by decide +kernel) ?_
  refine x_iload_n (pc := 8) (show decode mX4_put.2.1 8 = .ok (.iload_n 2, 1) by decide +kernel) rfl rfl ?_
  refine x_iadd (pc := 9) (show decode mX4_put.2.1 9 = .ok (.iadd, 1) by decide +kernel) ?_
  refine x_lload_n (pc := 10) (show decode mX4_put.2.1 10 = .ok (.lload_n 3, 1) by decide +kernel) rfl rfl ?_
  obtain ⟨hg, hR⟩ := hR
  refine x_last (pc := 11) rfl (by decide) hg (show decode mX4_put.2.1 11 = .ok (.lastore, 1) by decide +kernel) ?_
  exact x_vret (pc := 12) rfl (show decode mX4_put.2.1 12 = .ok (.return_, 1) by decide +kernel) ⟨rfl, hR⟩
set_option maxRecDepth 4000 in
theorem sg_X4_at_0 {d : Nat} {x1 x2 : Int} {h : xH} {Q : Int → xH → Prop}
    (hR : (0 ≤ ((x1 * 30) + x2) ∧ ((x1 * 30) + x2) < 120) ∧ Q (h 52 ((x1 * 30) + x2)) h) :
    gL wdC d mX4_at 0 [some (.inr (.inr 50)), some (.inl x1), some (.inl x2)] h Q := by
  unfold gL
  refine x_aload_n (pc := 0) (show decode mX4_at.2.1 0 = .ok (.aload_n 0, 1) by decide +kernel) rfl rfl ?_
  refine x_getR (pc := 1) f4_15 rfl rfl (show decode mX4_at.2.1 1 = .ok (.getfield 15, 3) by decide +kernel) ?_
  refine x_iload_n (pc := 4) (show decode mX4_at.2.1 4 = .ok (.iload_n 1, 1) by decide +kernel) rfl rfl ?_
  refine x_bipush (pc := 5) (n := 30) (show decode mX4_at.2.1 5 = .ok (.bipush 30, 2) by decide +kernel) rfl ?_
  refine x_imul (pc := 7) (show decode mX4_at.2.1 7 = .ok (.imul, 1) by decide +kernel) ?_
  refine x_iload_n (pc := 8) (show decode mX4_at.2.1 8 = .ok (.iload_n 2, 1) by decide +kernel) rfl rfl ?_
  refine x_iadd (pc := 9) (show decode mX4_at.2.1 9 = .ok (.iadd, 1) by decide +kernel) ?_
  obtain ⟨hg, hR⟩ := hR
  refine x_lald (pc := 10) rfl (by decide) hg (show decode mX4_at.2.1 10 = .ok (.laload, 1) by decide +kernel) ?_
  exact x_lret (pc := 11) rfl (show decode mX4_at.2.1 11 = .ok (.lreturn, 1) by decide +kernel) ⟨_, rfl, hR⟩
set_option maxRecDepth 4000 in
theorem sg_J_bitCount_0 {wd : List xE} {d : Nat} {x0 : Int} {h : xH} {Q : Int → xH → Prop}
    (hR : (0 ≤ x0 ∧ inI x0) ∧ (0 ≤ (x0 - (xandI (x0 / 2 ^ (Int.toNat 1)) 1431655765)) ∧ inI (x0 - (xandI (x0 / 2 ^ (Int.toNat 1)) 1431655765))) ∧ (0 ≤ ((xandI (x0 - (xandI (x0 / 2 ^ (Int.toNat 1)) 1431655765)) 858993459) + (xandI ((x0 - (xandI (x0 / 2 ^ (Int.toNat 1)) 1431655765)) / 2 ^ (Int.toNat 2)) 858993459)) ∧ inI ((xandI (x0 - (xandI (x0 / 2 ^ (Int.toNat 1)) 1431655765)) 858993459) + (xandI ((x0 - (xandI (x0 / 2 ^ (Int.toNat 1)) 1431655765)) / 2 ^ (Int.toNat 2)) 858993459))) ∧ (0 ≤ (xandI (((xandI (x0 - (xandI (x0 / 2 ^ (Int.toNat 1)) 1431655765)) 858993459) + (xandI ((x0 - (xandI (x0 / 2 ^ (Int.toNat 1)) 1431655765)) / 2 ^ (Int.toNat 2)) 858993459)) + (((xandI (x0 - (xandI (x0 / 2 ^ (Int.toNat 1)) 1431655765)) 858993459) + (xandI ((x0 - (xandI (x0 / 2 ^ (Int.toNat 1)) 1431655765)) / 2 ^ (Int.toNat 2)) 858993459)) / 2 ^ (Int.toNat 4))) 252645135) ∧ inI (xandI (((xandI (x0 - (xandI (x0 / 2 ^ (Int.toNat 1)) 1431655765)) 858993459) + (xandI ((x0 - (xandI (x0 / 2 ^ (Int.toNat 1)) 1431655765)) / 2 ^ (Int.toNat 2)) 858993459)) + (((xandI (x0 - (xandI (x0 / 2 ^ (Int.toNat 1)) 1431655765)) 858993459) + (xandI ((x0 - (xandI (x0 / 2 ^ (Int.toNat 1)) 1431655765)) / 2 ^ (Int.toNat 2)) 858993459)) / 2 ^ (Int.toNat 4))) 252645135)) ∧ (0 ≤ ((xandI (((xandI (x0 - (xandI (x0 / 2 ^ (Int.toNat 1)) 1431655765)) 858993459) + (xandI ((x0 - (xandI (x0 / 2 ^ (Int.toNat 1)) 1431655765)) / 2 ^ (Int.toNat 2)) 858993459)) + (((xandI (x0 - (xandI (x0 / 2 ^ (Int.toNat 1)) 1431655765)) 858993459) + (xandI ((x0 - (xandI (x0 / 2 ^ (Int.toNat 1)) 1431655765)) / 2 ^ (Int.toNat 2)) 858993459)) / 2 ^ (Int.toNat 4))) 252645135) + ((xandI (((xandI (x0 - (xandI (x0 / 2 ^ (Int.toNat 1)) 1431655765)) 858993459) + (xandI ((x0 - (xandI (x0 / 2 ^ (Int.toNat 1)) 1431655765)) / 2 ^ (Int.toNat 2)) 858993459)) + (((xandI (x0 - (xandI (x0 / 2 ^ (Int.toNat 1)) 1431655765)) 858993459) + (xandI ((x0 - (xandI (x0 / 2 ^ (Int.toNat 1)) 1431655765)) / 2 ^ (Int.toNat 2)) 858993459)) / 2 ^ (Int.toNat 4))) 252645135) / 2 ^ (Int.toNat 8))) ∧ inI ((xandI (((xandI (x0 - (xandI (x0 / 2 ^ (Int.toNat 1)) 1431655765)) 858993459) + (xandI ((x0 - (xandI (x0 / 2 ^ (Int.toNat 1)) 1431655765)) / 2 ^ (Int.toNat 2)) 858993459)) + (((xandI (x0 - (xandI (x0 / 2 ^ (Int.toNat 1)) 1431655765)) 858993459) + (xandI ((x0 - (xandI (x0 / 2 ^ (Int.toNat 1)) 1431655765)) / 2 ^ (Int.toNat 2)) 858993459)) / 2 ^ (Int.toNat 4))) 252645135) + ((xandI (((xandI (x0 - (xandI (x0 / 2 ^ (Int.toNat 1)) 1431655765)) 858993459) + (xandI ((x0 - (xandI (x0 / 2 ^ (Int.toNat 1)) 1431655765)) / 2 ^ (Int.toNat 2)) 858993459)) + (((xandI (x0 - (xandI (x0 / 2 ^ (Int.toNat 1)) 1431655765)) 858993459) + (xandI ((x0 - (xandI (x0 / 2 ^ (Int.toNat 1)) 1431655765)) / 2 ^ (Int.toNat 2)) 858993459)) / 2 ^ (Int.toNat 4))) 252645135) / 2 ^ (Int.toNat 8)))) ∧ Q (xandI (((xandI (((xandI (x0 - (xandI (x0 / 2 ^ (Int.toNat 1)) 1431655765)) 858993459) + (xandI ((x0 - (xandI (x0 / 2 ^ (Int.toNat 1)) 1431655765)) / 2 ^ (Int.toNat 2)) 858993459)) + (((xandI (x0 - (xandI (x0 / 2 ^ (Int.toNat 1)) 1431655765)) 858993459) + (xandI ((x0 - (xandI (x0 / 2 ^ (Int.toNat 1)) 1431655765)) / 2 ^ (Int.toNat 2)) 858993459)) / 2 ^ (Int.toNat 4))) 252645135) + ((xandI (((xandI (x0 - (xandI (x0 / 2 ^ (Int.toNat 1)) 1431655765)) 858993459) + (xandI ((x0 - (xandI (x0 / 2 ^ (Int.toNat 1)) 1431655765)) / 2 ^ (Int.toNat 2)) 858993459)) + (((xandI (x0 - (xandI (x0 / 2 ^ (Int.toNat 1)) 1431655765)) 858993459) + (xandI ((x0 - (xandI (x0 / 2 ^ (Int.toNat 1)) 1431655765)) / 2 ^ (Int.toNat 2)) 858993459)) / 2 ^ (Int.toNat 4))) 252645135) / 2 ^ (Int.toNat 8))) + (((xandI (((xandI (x0 - (xandI (x0 / 2 ^ (Int.toNat 1)) 1431655765)) 858993459) + (xandI ((x0 - (xandI (x0 / 2 ^ (Int.toNat 1)) 1431655765)) / 2 ^ (Int.toNat 2)) 858993459)) + (((xandI (x0 - (xandI (x0 / 2 ^ (Int.toNat 1)) 1431655765)) 858993459) + (xandI ((x0 - (xandI (x0 / 2 ^ (Int.toNat 1)) 1431655765)) / 2 ^ (Int.toNat 2)) 858993459)) / 2 ^ (Int.toNat 4))) 252645135) + ((xandI (((xandI (x0 - (xandI (x0 / 2 ^ (Int.toNat 1)) 1431655765)) 858993459) + (xandI ((x0 - (xandI (x0 / 2 ^ (Int.toNat 1)) 1431655765)) / 2 ^ (Int.toNat 2)) 858993459)) + (((xandI (x0 - (xandI (x0 / 2 ^ (Int.toNat 1)) 1431655765)) 858993459) + (xandI ((x0 - (xandI (x0 / 2 ^ (Int.toNat 1)) 1431655765)) / 2 ^ (Int.toNat 2)) 858993459)) / 2 ^ (Int.toNat 4))) 252645135) / 2 ^ (Int.toNat 8))) / 2 ^ (Int.toNat 16))) 63) h) :
    gI wd d mJ_bitCount 0 [some (.inl x0)] h Q := by
  unfold gI
  refine x_iload_n (pc := 0) (show decode mJ_bitCount.2.1 0 = .ok (.iload_n 0, 1) by decide +kernel) rfl rfl ?_
  refine x_iload_n (pc := 1) (show decode mJ_bitCount.2.1 1 = .ok (.iload_n 0, 1) by decide +kernel) rfl rfl ?_
  refine x_iconst (pc := 2) (n := 1) (show decode mJ_bitCount.2.1 2 = .ok (.iconst 1, 1) by decide +kernel) ?_
  obtain ⟨hg, hR⟩ := hR
  refine x_iushr (pc := 3) (show decode mJ_bitCount.2.1 3 = .ok (.iushr, 1) by decide +kernel) ⟨hg, by decide⟩ ?_
  refine x_ldcw (pc := 4) (n := 1431655765) (tblG_m3 201 rfl rfl) rfl (show decode mJ_bitCount.2.1 4 = .ok (.ldc_w 265, 3) by decide +kernel) ?_
  refine x_iand (pc := 7) (show decode mJ_bitCount.2.1 7 = .ok (.iand, 1) by decide +kernel) ?_
  refine x_isub (pc := 8) (show decode mJ_bitCount.2.1 8 = .ok (.isub, 1) by decide +kernel) ?_
  refine x_istore_n (pc := 9) (ls' := [some (.inl (x0 - (xandI (x0 / 2 ^ (Int.toNat 1)) 1431655765)))]) (show decode mJ_bitCount.2.1 9 = .ok (.istore_n 0, 1) by decide +kernel) rfl (by decide) rfl ?_
  refine x_iload_n (pc := 10) (show decode mJ_bitCount.2.1 10 = .ok (.iload_n 0, 1) by decide +kernel) rfl rfl ?_
  refine x_ldcw (pc := 11) (n := 858993459) (tblG_m3 202 rfl rfl) rfl (show decode mJ_bitCount.2.1 11 = .ok (.ldc_w 266, 3) by decide +kernel) ?_
  refine x_iand (pc := 14) (show decode mJ_bitCount.2.1 14 = .ok (.iand, 1) by decide +kernel) ?_
  refine x_iload_n (pc := 15) (show decode mJ_bitCount.2.1 15 = .ok (.iload_n 0, 1) by decide +kernel) rfl rfl ?_
  refine x_iconst (pc := 16) (n := 2) (show decode mJ_bitCount.2.1 16 = .ok (.iconst 2, 1) by decide +kernel) ?_
  obtain ⟨hg, hR⟩ := hR
  refine x_iushr (pc := 17) (show decode mJ_bitCount.2.1 17 = .ok (.iushr, 1) by decide +kernel) ⟨hg, by decide⟩ ?_
  refine x_ldcw (pc := 18) (n := 858993459) (tblG_m3 202 rfl rfl) rfl (show decode mJ_bitCount.2.1 18 = .ok (.ldc_w 266, 3) by decide +kernel) ?_
  refine x_iand (pc := 21) (show decode mJ_bitCount.2.1 21 = .ok (.iand, 1) by decide +kernel) ?_
  refine x_iadd (pc := 22) (show decode mJ_bitCount.2.1 22 = .ok (.iadd, 1) by decide +kernel) ?_
  refine x_istore_n (pc := 23) (ls' := [some (.inl ((xandI (x0 - (xandI (x0 / 2 ^ (Int.toNat 1)) 1431655765)) 858993459) + (xandI ((x0 - (xandI (x0 / 2 ^ (Int.toNat 1)) 1431655765)) / 2 ^ (Int.toNat 2)) 858993459)))]) (show decode mJ_bitCount.2.1 23 = .ok (.istore_n 0, 1) by decide +kernel) rfl (by decide) rfl ?_
  refine x_iload_n (pc := 24) (show decode mJ_bitCount.2.1 24 = .ok (.iload_n 0, 1) by decide +kernel) rfl rfl ?_
  refine x_iload_n (pc := 25) (show decode mJ_bitCount.2.1 25 = .ok (.iload_n 0, 1) by decide +kernel) rfl rfl ?_
  refine x_iconst (pc := 26) (n := 4) (show decode mJ_bitCount.2.1 26 = .ok (.iconst 4, 1) by decide +kernel) ?_
  obtain ⟨hg, hR⟩ := hR
  refine x_iushr (pc := 27) (show decode mJ_bitCount.2.1 27 = .ok (.iushr, 1) by decide +kernel) ⟨hg, by decide⟩ ?_
  refine x_iadd (pc := 28) (show decode mJ_bitCount.2.1 28 = .ok (.iadd, 1) by decide +kernel) ?_
  refine x_ldcw (pc := 29) (n := 252645135) (tblG_m3 203 rfl rfl) rfl (show decode mJ_bitCount.2.1 29 = .ok (.ldc_w 267, 3) by decide +kernel) ?_
  refine x_iand (pc := 32) (show decode mJ_bitCount.2.1 32 = .ok (.iand, 1) by decide +kernel) ?_
  refine x_istore_n (pc := 33) (ls' := [some (.inl (xandI (((xandI (x0 - (xandI (x0 / 2 ^ (Int.toNat 1)) 1431655765)) 858993459) + (xandI ((x0 - (xandI (x0 / 2 ^ (Int.toNat 1)) 1431655765)) / 2 ^ (Int.toNat 2)) 858993459)) + (((xandI (x0 - (xandI (x0 / 2 ^ (Int.toNat 1)) 1431655765)) 858993459) + (xandI ((x0 - (xandI (x0 / 2 ^ (Int.toNat 1)) 1431655765)) / 2 ^ (Int.toNat 2)) 858993459)) / 2 ^ (Int.toNat 4))) 252645135))]) (show decode mJ_bitCount.2.1 33 = .ok (.istore_n 0, 1) by decide +kernel) rfl (by decide) rfl ?_
  refine x_iload_n (pc := 34) (show decode mJ_bitCount.2.1 34 = .ok (.iload_n 0, 1) by decide +kernel) rfl rfl ?_
  refine x_iload_n (pc := 35) (show decode mJ_bitCount.2.1 35 = .ok (.iload_n 0, 1) by decide +kernel) rfl rfl ?_
  refine x_bipush (pc := 36) (n := 8) (show decode mJ_bitCount.2.1 36 = .ok (.bipush 8, 2) by decide +kernel) rfl ?_
  obtain ⟨hg, hR⟩ := hR
  refine x_iushr (pc := 38) (show decode mJ_bitCount.2.1 38 = .ok (.iushr, 1) by decide +kernel) ⟨hg, by decide⟩ ?_
  refine x_iadd (pc := 39) (show decode mJ_bitCount.2.1 39 = .ok (.iadd, 1) by decide +kernel) ?_
  refine x_istore_n (pc := 40) (ls' := [some (.inl ((xandI (((xandI (x0 - (xandI (x0 / 2 ^ (Int.toNat 1)) 1431655765)) 858993459) + (xandI ((x0 - (xandI (x0 / 2 ^ (Int.toNat 1)) 1431655765)) / 2 ^ (Int.toNat 2)) 858993459)) + (((xandI (x0 - (xandI (x0 / 2 ^ (Int.toNat 1)) 1431655765)) 858993459) + (xandI ((x0 - (xandI (x0 / 2 ^ (Int.toNat 1)) 1431655765)) / 2 ^ (Int.toNat 2)) 858993459)) / 2 ^ (Int.toNat 4))) 252645135) + ((xandI (((xandI (x0 - (xandI (x0 / 2 ^ (Int.toNat 1)) 1431655765)) 858993459) + (xandI ((x0 - (xandI (x0 / 2 ^ (Int.toNat 1)) 1431655765)) / 2 ^ (Int.toNat 2)) 858993459)) + (((xandI (x0 - (xandI (x0 / 2 ^ (Int.toNat 1)) 1431655765)) 858993459) + (xandI ((x0 - (xandI (x0 / 2 ^ (Int.toNat 1)) 1431655765)) / 2 ^ (Int.toNat 2)) 858993459)) / 2 ^ (Int.toNat 4))) 252645135) / 2 ^ (Int.toNat 8))))]) (show decode mJ_bitCount.2.1 40 = .ok (.istore_n 0, 1) by decide +kernel) rfl (by decide) rfl ?_
  refine x_iload_n (pc := 41) (show decode mJ_bitCount.2.1 41 = .ok (.iload_n 0, 1) by decide +kernel) rfl rfl ?_
  refine x_iload_n (pc := 42) (show decode mJ_bitCount.2.1 42 = .ok (.iload_n 0, 1) by decide +kernel) rfl rfl ?_
  refine x_bipush (pc := 43) (n := 16) (show decode mJ_bitCount.2.1 43 = .ok (.bipush 16, 2) by decide +kernel) rfl ?_
  obtain ⟨hg, hR⟩ := hR
  refine x_iushr (pc := 45) (show decode mJ_bitCount.2.1 45 = .ok (.iushr, 1) by decide +kernel) ⟨hg, by decide⟩ ?_
  refine x_iadd (pc := 46) (show decode mJ_bitCount.2.1 46 = .ok (.iadd, 1) by decide +kernel) ?_
  refine x_istore_n (pc := 47) (ls' := [some (.inl (((xandI (((xandI (x0 - (xandI (x0 / 2 ^ (Int.toNat 1)) 1431655765)) 858993459) + (xandI ((x0 - (xandI (x0 / 2 ^ (Int.toNat 1)) 1431655765)) / 2 ^ (Int.toNat 2)) 858993459)) + (((xandI (x0 - (xandI (x0 / 2 ^ (Int.toNat 1)) 1431655765)) 858993459) + (xandI ((x0 - (xandI (x0 / 2 ^ (Int.toNat 1)) 1431655765)) / 2 ^ (Int.toNat 2)) 858993459)) / 2 ^ (Int.toNat 4))) 252645135) + ((xandI (((xandI (x0 - (xandI (x0 / 2 ^ (Int.toNat 1)) 1431655765)) 858993459) + (xandI ((x0 - (xandI (x0 / 2 ^ (Int.toNat 1)) 1431655765)) / 2 ^ (Int.toNat 2)) 858993459)) + (((xandI (x0 - (xandI (x0 / 2 ^ (Int.toNat 1)) 1431655765)) 858993459) + (xandI ((x0 - (xandI (x0 / 2 ^ (Int.toNat 1)) 1431655765)) / 2 ^ (Int.toNat 2)) 858993459)) / 2 ^ (Int.toNat 4))) 252645135) / 2 ^ (Int.toNat 8))) + (((xandI (((xandI (x0 - (xandI (x0 / 2 ^ (Int.toNat 1)) 1431655765)) 858993459) + (xandI ((x0 - (xandI (x0 / 2 ^ (Int.toNat 1)) 1431655765)) / 2 ^ (Int.toNat 2)) 858993459)) + (((xandI (x0 - (xandI (x0 / 2 ^ (Int.toNat 1)) 1431655765)) 858993459) + (xandI ((x0 - (xandI (x0 / 2 ^ (Int.toNat 1)) 1431655765)) / 2 ^ (Int.toNat 2)) 858993459)) / 2 ^ (Int.toNat 4))) 252645135) + ((xandI (((xandI (x0 - (xandI (x0 / 2 ^ (Int.toNat 1)) 1431655765)) 858993459) + (xandI ((x0 - (xandI (x0 / 2 ^ (Int.toNat 1)) 1431655765)) / 2 ^ (Int.toNat 2)) 858993459)) + (((xandI (x0 - (xandI (x0 / 2 ^ (Int.toNat 1)) 1431655765)) 858993459) + (xandI ((x0 - (xandI (x0 / 2 ^ (Int.toNat 1)) 1431655765)) / 2 ^ (Int.toNat 2)) 858993459)) / 2 ^ (Int.toNat 4))) 252645135) / 2 ^ (Int.toNat 8))) / 2 ^ (Int.toNat 16))))]) (show decode mJ_bitCount.2.1 47 = .ok (.istore_n 0, 1) by decide +kernel) rfl (by decide) rfl ?_
  refine x_iload_n (pc := 48) (show decode mJ_bitCount.2.1 48 = .ok (.iload_n 0, 1) by decide +kernel) rfl rfl ?_
  refine x_bipush (pc := 49) (n := 63) (show decode mJ_bitCount.2.1 49 = .ok (.bipush 63, 2) by decide +kernel) rfl ?_
  refine x_iand (pc := 51) (show decode mJ_bitCount.2.1 51 = .ok (.iand, 1) by decide +kernel) ?_
  exact x_iret (pc := 52) rfl (show decode mJ_bitCount.2.1 52 = .ok (.ireturn, 1) by decide +kernel) ⟨_, rfl, hR⟩
set_option maxRecDepth 4000 in
theorem sg_J_fill_0 {d : Nat} {x1 : Int} {h : xH} {Q : xH → Prop}
    (hR : gV wdC d mJ_fill 5 [some (.inr (.inr 31)), some (.inl x1), some (.inl 0), some (.inl 12)] h Q) :
    gV wdC d mJ_fill 0 [some (.inr (.inr 31)), some (.inl x1), none, none] h Q := by
  unfold gV
  refine x_iconst (pc := 0) (n := 0) (show decode mJ_fill.2.1 0 = .ok (.iconst 0, 1) by decide +kernel) ?_
  refine x_istore_n (pc := 1) (ls' := [some (.inr (.inr 31)), some (.inl x1), some (.inl 0), none]) (show decode mJ_fill.2.1 1 = .ok (.istore_n 2, 1) by decide +kernel) rfl (by decide) rfl ?_
  refine x_aload_n (pc := 2) (show decode mJ_fill.2.1 2 = .ok (.aload_n 0, 1) by decide +kernel) rfl rfl ?_
  refine x_alen (pc := 3) (ni := 12) rfl rfl (show decode mJ_fill.2.1 3 = .ok (.arraylength, 1) by decide +kernel) ?_
  refine x_istore_n (pc := 4) (ls' := [some (.inr (.inr 31)), some (.inl x1), some (.inl 0), some (.inl 12)]) (show decode mJ_fill.2.1 4 = .ok (.istore_n 3, 1) by decide +kernel) rfl (by decide) rfl ?_
  exact hR
set_option maxRecDepth 4000 in
theorem sg_J_fill_5 {d : Nat} {x1 x2 x3 : Int} {h : xH} {Q : xH → Prop}
    (hR : (inI x2 ∧ inI x3) ∧ (x3 ≤ x2 → Q h) ∧ (x2 < x3 → (0 ≤ x2 ∧ x2 < 12) ∧ gV wdC d mJ_fill 5 [some (.inr (.inr 31)), some (.inl x1), some (.inl (x2 + 1)), some (.inl x3)] (xu h 31 x2 x1) Q)) :
    gV wdC d mJ_fill 5 [some (.inr (.inr 31)), some (.inl x1), some (.inl x2), some (.inl x3)] h Q := by
  unfold gV
  refine x_iload_n (pc := 5) (show decode mJ_fill.2.1 5 = .ok (.iload_n 2, 1) by decide +kernel) rfl rfl ?_
  refine x_iload_n (pc := 6) (show decode mJ_fill.2.1 6 = .ok (.iload_n 3, 1) by decide +kernel) rfl rfl ?_
  obtain ⟨hg, hR⟩ := hR
  refine x_icmp_ge (pc := 7) (tgt := 20) (show decode mJ_fill.2.1 7 = .ok (.if_icmp .ge 13, 3) by decide +kernel) (by decide) ⟨hg.1, hg.2⟩ (fun hc => ?_) (fun hc => ?_)
  · replace hR := hR.1 hc
    exact x_vret (pc := 20) rfl (show decode mJ_fill.2.1 20 = .ok (.return_, 1) by decide +kernel) ⟨rfl, hR⟩
  · replace hR := hR.2 hc
    refine x_aload_n (pc := 10) (show decode mJ_fill.2.1 10 = .ok (.aload_n 0, 1) by decide +kernel) rfl rfl ?_
    refine x_iload_n (pc := 11) (show decode mJ_fill.2.1 11 = .ok (.iload_n 2, 1) by decide +kernel) rfl rfl ?_
    refine x_iload_n (pc := 12) (show decode mJ_fill.2.1 12 = .ok (.iload_n 1, 1) by decide +kernel) rfl rfl ?_
    obtain ⟨hg, hR⟩ := hR
    refine x_iast (pc := 13) rfl (by decide) hg (show decode mJ_fill.2.1 13 = .ok (.iastore, 1) by decide +kernel) ?_
    refine x_iinc (pc := 14) (ls' := [some (.inr (.inr 31)), some (.inl x1), some (.inl (x2 + 1)), some (.inl x3)]) (show decode mJ_fill.2.1 14 = .ok (.iinc 2 1, 3) by decide +kernel) (by decide) rfl rfl ?_
    refine x_goto (pc := 17) (tgt := 5) (show decode mJ_fill.2.1 17 = .ok (.goto (-12), 3) by decide +kernel) (by decide) ?_
    exact hR
end
